theorem dX11_sign_0 : decode cX11_sign 0 = .ok (.aload_n 0, 1) := by decide +kernel
theorem dX11_sign_1 : decode cX11_sign 1 = .ok (.getfield 121, 3) := by decide +kernel
theorem dX11_sign_4 : decode cX11_sign 4 = .ok (.iconst 4, 1) := by decide +kernel
theorem dX11_sign_5 : decode cX11_sign 5 = .ok (.iadd, 1) := by decide +kernel
theorem dX11_sign_6 : decode cX11_sign 6 = .ok (.bipush 80, 2) := by decide +kernel
theorem dX11_sign_8 : decode cX11_sign 8 = .ok (.if_icmp .le 5, 3) := by decide +kernel
theorem dX11_sign_11 : decode cX11_sign 11 = .ok (.iconst (-1), 1) := by decide +kernel
theorem dX11_sign_12 : decode cX11_sign 12 = .ok (.ireturn, 1) := by decide +kernel
theorem dX11_sign_13 : decode cX11_sign 13 = .ok (.bipush 24, 2) := by decide +kernel
theorem dX11_sign_15 : decode cX11_sign 15 = .ok (.istore_n 2, 1) := by decide +kernel
theorem dX11_sign_16 : decode cX11_sign 16 = .ok (.iload_n 2, 1) := by decide +kernel
theorem dX11_sign_17 : decode cX11_sign 17 = .ok (.ifCond .lt 36, 3) := by decide +kernel
theorem dX11_sign_20 : decode cX11_sign 20 = .ok (.aload_n 0, 1) := by decide +kernel
theorem dX11_sign_21 : decode cX11_sign 21 = .ok (.getfield 9, 3) := by decide +kernel
theorem dX11_sign_24 : decode cX11_sign 24 = .ok (.aload_n 0, 1) := by decide +kernel
theorem dX11_sign_25 : decode cX11_sign 25 = .ok (.getfield 121, 3) := by decide +kernel
theorem dX11_sign_28 : decode cX11_sign 28 = .ok (.iload_n 1, 1) := by decide +kernel
theorem dX11_sign_29 : decode cX11_sign 29 = .ok (.iload_n 2, 1) := by decide +kernel
theorem dX11_sign_30 : decode cX11_sign 30 = .ok (.ishr, 1) := by decide +kernel
theorem dX11_sign_31 : decode cX11_sign 31 = .ok (.sipush 255, 3) := by decide +kernel
theorem dX11_sign_34 : decode cX11_sign 34 = .ok (.iand, 1) := by decide +kernel
theorem dX11_sign_35 : decode cX11_sign 35 = .ok (.i2c, 1) := by decide +kernel
theorem dX11_sign_36 : decode cX11_sign 36 = .ok (.castore, 1) := by decide +kernel
theorem dX11_sign_37 : decode cX11_sign 37 = .ok (.aload_n 0, 1) := by decide +kernel
theorem dX11_sign_38 : decode cX11_sign 38 = .ok (.dup, 1) := by decide +kernel
theorem dX11_sign_39 : decode cX11_sign 39 = .ok (.getfield 121, 3) := by decide +kernel
theorem dX11_sign_42 : decode cX11_sign 42 = .ok (.iconst 1, 1) := by decide +kernel
theorem dX11_sign_43 : decode cX11_sign 43 = .ok (.iadd, 1) := by decide +kernel
theorem dX11_sign_44 : decode cX11_sign 44 = .ok (.putfield 121, 3) := by decide +kernel
theorem dX11_sign_47 : decode cX11_sign 47 = .ok (.iinc 2 (-8), 3) := by decide +kernel
theorem dX11_sign_50 : decode cX11_sign 50 = .ok (.goto (-34), 3) := by decide +kernel
theorem dX11_sign_53 : decode cX11_sign 53 = .ok (.aload_n 0, 1) := by decide +kernel
theorem dX11_sign_54 : decode cX11_sign 54 = .ok (.getfield 121, 3) := by decide +kernel
theorem dX11_sign_57 : decode cX11_sign 57 = .ok (.ireturn, 1) := by decide +kernel
set_option maxRecDepth 100000 in
set_option maxHeartbeats 4000000 in
theorem B_X11_sign_0 {κ : Nat → List Value → List Value → m2M → Prop} {D : Nat} {Q : Option Value → m2M → Prop} (h : m2_RL κ cX11_sign RX11 3 D (some .int) Q) {x1 : Int32} {μ : m2M} (k : (((μ.1 kC 1) + 4) ≤ 80 → κ 16 [.ref kC, .int x1, .int 24] [] μ) ∧ (¬ ((μ.1 kC 1) + 4) ≤ 80 → Q (some (.int (-1))) μ)) : κ 0 [.ref kC, .int x1, .null] [] μ := by
  have hB := h.b
  refine m2_aload_n hB dX11_sign_0 rfl ?_
  refine m2_getI hB dX11_sign_1 fl_X11_121 sh_kC rfl ?_
  refine m2_iconst hB dX11_sign_4 (v := 4) (by decide) ?_
  refine m2_iadd hB dX11_sign_5 ?_
  refine m2_bipush hB dX11_sign_6 (v := 80) (by decide) ?_
  refine m2_icmp_le hB dX11_sign_8 (tgt := 13) (by decide) (fun q1 : ((μ.1 kC 1) + 4) ≤ 80 => ?_) (fun q1 : ¬ ((μ.1 kC 1) + 4) ≤ 80 => ?_)
  · replace k := k.1 q1
    refine m2_bipush hB dX11_sign_13 (v := 24) (by decide) ?_
    refine m2_istore_n hB (ls' := [.ref kC, .int x1, .int 24]) dX11_sign_15 rfl (by decide) rfl ?_
    exact k
  · replace k := k.2 q1
    refine m2_iconst hB dX11_sign_11 (v := (-1)) (by decide) ?_
    exact m2_iret h dX11_sign_12 k
set_option maxRecDepth 100000 in
set_option maxHeartbeats 4000000 in
theorem B_X11_sign_16 {κ : Nat → List Value → List Value → m2M → Prop} {D : Nat} {Q : Option Value → m2M → Prop} (h : m2_RL κ cX11_sign RX11 3 D (some .int) Q) {v1 : Int32} {v2 : Int32} {μ : m2M} (k : (v2 < 0 → Q (some (.int (μ.1 kC 1))) μ) ∧ (¬ v2 < 0 → (vp_in (μ.1 kC 1) 80) ∧ (κ 16 [.ref kC, .int v1, .int (v2 + (-8))] [] (m2_si (m2_si μ kC_text ((μ.1 kC 1)).toNatClampNeg (vp_nar .char ((((v1 >>> (v2 &&& 31)) &&& (255 : Int32))).toUInt32 % 65536).toInt32)) kC 1 ((μ.1 kC 1) + 1))))) : κ 16 [.ref kC, .int v1, .int v2] [] μ := by
  have hB := h.b
  refine m2_iload_n hB dX11_sign_16 rfl ?_
  refine m2_if_lt hB dX11_sign_17 (tgt := 53) (by decide) (fun q2 : v2 < 0 => ?_) (fun q2 : ¬ v2 < 0 => ?_)
  · replace k := k.1 q2
    refine m2_aload_n hB dX11_sign_53 rfl ?_
    refine m2_getI hB dX11_sign_54 fl_X11_121 sh_kC rfl ?_
    exact m2_iret h dX11_sign_57 k
  · replace k := k.2 q2
    refine m2_aload_n hB dX11_sign_20 rfl ?_
    refine m2_getR hB dX11_sign_21 fl_X11_9 sh_kC (c1 := kC_text) rfl ?_
    refine m2_aload_n hB dX11_sign_24 rfl ?_
    refine m2_getI hB dX11_sign_25 fl_X11_121 sh_kC rfl ?_
    refine m2_iload_n hB dX11_sign_28 rfl ?_
    refine m2_iload_n hB dX11_sign_29 rfl ?_
    refine m2_ishr hB dX11_sign_30 ?_
    refine m2_sipush hB dX11_sign_31 (v := 255) (by decide) ?_
    refine m2_iand hB dX11_sign_34 ?_
    refine m2_i2c hB dX11_sign_35 ?_
    obtain ⟨hi3, k⟩ := k
    refine m2_cast hB dX11_sign_36 sh_kC_text hi3 ?_
    refine m2_aload_n hB dX11_sign_37 rfl ?_
    refine m2_dup hB dX11_sign_38 rfl ?_
    refine m2_getI hB dX11_sign_39 fl_X11_121 sh_kC rfl ?_
    refine m2_iconst hB dX11_sign_42 (v := 1) (by decide) ?_
    refine m2_iadd hB dX11_sign_43 ?_
    refine m2_putI hB dX11_sign_44 fl_X11_121 sh_kC rfl ?_
    refine m2_iinc hB (ls' := [.ref kC, .int v1, .int (v2 + (-8))]) (v := (v2 + (-8))) dX11_sign_47 rfl (by decide) rfl rfl ?_
    refine m2_goto hB dX11_sign_50 (tgt := 16) (by decide) ?_
    exact k
theorem dX11_end_0 : decode cX11_end 0 = .ok (.iload_n 1, 1) := by decide +kernel
theorem dX11_end_1 : decode cX11_end 1 = .ok (.ifCond .lt 11, 3) := by decide +kernel
theorem dX11_end_4 : decode cX11_end 4 = .ok (.iload_n 1, 1) := by decide +kernel
theorem dX11_end_5 : decode cX11_end 5 = .ok (.aload_n 0, 1) := by decide +kernel
theorem dX11_end_6 : decode cX11_end 6 = .ok (.getfield 121, 3) := by decide +kernel
theorem dX11_end_9 : decode cX11_end 9 = .ok (.if_icmp .le 5, 3) := by decide +kernel
theorem dX11_end_12 : decode cX11_end 12 = .ok (.iconst 0, 1) := by decide +kernel
theorem dX11_end_13 : decode cX11_end 13 = .ok (.ireturn, 1) := by decide +kernel
theorem dX11_end_14 : decode cX11_end 14 = .ok (.aload_n 0, 1) := by decide +kernel
theorem dX11_end_15 : decode cX11_end 15 = .ok (.iload_n 1, 1) := by decide +kernel
theorem dX11_end_16 : decode cX11_end 16 = .ok (.putfield 121, 3) := by decide +kernel
theorem dX11_end_19 : decode cX11_end 19 = .ok (.iconst 1, 1) := by decide +kernel
theorem dX11_end_20 : decode cX11_end 20 = .ok (.ireturn, 1) := by decide +kernel
set_option maxRecDepth 100000 in
set_option maxHeartbeats 4000000 in
theorem B_X11_end_0 {κ : Nat → List Value → List Value → m2M → Prop} {D : Nat} {Q : Option Value → m2M → Prop} (h : m2_RL κ cX11_end RX11 2 D (some .boolean) Q) {x1 : Int32} {μ : m2M} (k : (x1 < 0 → Q (some (.int 0)) μ) ∧ (¬ x1 < 0 → (x1 ≤ (μ.1 kC 1) → Q (some (.int 1)) (m2_si μ kC 1 x1)) ∧ (¬ x1 ≤ (μ.1 kC 1) → Q (some (.int 0)) μ))) : κ 0 [.ref kC, .int x1] [] μ := by
  have hB := h.b
  refine m2_iload_n hB dX11_end_0 rfl ?_
  refine m2_if_lt hB dX11_end_1 (tgt := 12) (by decide) (fun q1 : x1 < 0 => ?_) (fun q1 : ¬ x1 < 0 => ?_)
  · replace k := k.1 q1
    refine m2_iconst hB dX11_end_12 (v := 0) (by decide) ?_
    exact m2_zret h dX11_end_13 (Or.inl rfl) k
  · replace k := k.2 q1
    refine m2_iload_n hB dX11_end_4 rfl ?_
    refine m2_aload_n hB dX11_end_5 rfl ?_
    refine m2_getI hB dX11_end_6 fl_X11_121 sh_kC rfl ?_
    refine m2_icmp_le hB dX11_end_9 (tgt := 14) (by decide) (fun q2 : x1 ≤ (μ.1 kC 1) => ?_) (fun q2 : ¬ x1 ≤ (μ.1 kC 1) => ?_)
    · replace k := k.1 q2
      refine m2_aload_n hB dX11_end_14 rfl ?_
      refine m2_iload_n hB dX11_end_15 rfl ?_
      refine m2_putI hB dX11_end_16 fl_X11_121 sh_kC rfl ?_
      refine m2_iconst hB dX11_end_19 (v := 1) (by decide) ?_
      exact m2_zret h dX11_end_20 (Or.inr rfl) k
    · replace k := k.2 q2
      refine m2_iconst hB dX11_end_12 (v := 0) (by decide) ?_
      exact m2_zret h dX11_end_13 (Or.inl rfl) k
theorem dX11_house_0 : decode cX11_house 0 = .ok (.aload_n 0, 1) := by decide +kernel
theorem dX11_house_1 : decode cX11_house 1 = .ok (.getfield 55, 3) := by decide +kernel
theorem dX11_house_4 : decode cX11_house 4 = .ok (.aload_n 0, 1) := by decide +kernel
theorem dX11_house_5 : decode cX11_house 5 = .ok (.getfield 121, 3) := by decide +kernel
theorem dX11_house_8 : decode cX11_house 8 = .ok (.invokevirtual 125, 3) := by decide +kernel
theorem dX11_house_11 : decode cX11_house 11 = .ok (.istore_n 1, 1) := by decide +kernel
theorem dX11_house_12 : decode cX11_house 12 = .ok (.aload_n 0, 1) := by decide +kernel
theorem dX11_house_13 : decode cX11_house 13 = .ok (.iconst 0, 1) := by decide +kernel
theorem dX11_house_14 : decode cX11_house 14 = .ok (.putfield 121, 3) := by decide +kernel
theorem dX11_house_17 : decode cX11_house 17 = .ok (.iload_n 1, 1) := by decide +kernel
theorem dX11_house_18 : decode cX11_house 18 = .ok (.ireturn, 1) := by decide +kernel
set_option maxRecDepth 100000 in
set_option maxHeartbeats 4000000 in
theorem B_X11_house_0 {κ : Nat → List Value → List Value → m2M → Prop} {D : Nat} {Q : Option Value → m2M → Prop} (h : m2_RL κ cX11_house RX11 2 (D + 1) (some .int) Q)  {μ : m2M} (k : ∃ Q3 : Option Value → m2M → Prop, m2_MT D yX2_read cX2_read 5 (some .int) [.ref kH, .int (μ.1 kC 1)] μ Q3 ∧ ∀ (y1 : Int32) (μ2 : m2M), Q3 (some (.int y1)) μ2 → (Q (some (.int y1)) (m2_si μ2 kC 1 0))) : κ 0 [.ref kC, .null] [] μ := by
  have hB := h.b
  refine m2_aload_n hB dX11_house_0 rfl ?_
  refine m2_getR hB dX11_house_1 fl_X11_55 sh_kC (c1 := kH) rfl ?_
  refine m2_aload_n hB dX11_house_4 rfl ?_
  refine m2_getI hB dX11_house_5 fl_X11_121 sh_kC rfl ?_
  obtain ⟨Q3, hM4, k⟩ := k
  refine m2_invi hB (as := [.int (μ.1 kC 1)]) dX11_house_8 mv_X11_125 rfl sh_kH rfl (Nat.le_of_ble_eq_true rfl) rfl hM4 (fun y1 μ2 hq5 => ?_)
  replace k := k y1 μ2 hq5
  refine m2_istore_n hB (ls' := [.ref kC, .int y1]) dX11_house_11 rfl (by decide) rfl ?_
  refine m2_aload_n hB dX11_house_12 rfl ?_
  refine m2_iconst hB dX11_house_13 (v := 0) (by decide) ?_
  refine m2_putI hB dX11_house_14 fl_X11_121 sh_kC rfl ?_
  refine m2_iload_n hB dX11_house_17 rfl ?_
  exact m2_iret h dX11_house_18 k
theorem dX11_price_0 : decode cX11_price 0 = .ok (.aload_n 0, 1) := by decide +kernel
theorem dX11_price_1 : decode cX11_price 1 = .ok (.getfield 64, 3) := by decide +kernel
theorem dX11_price_4 : decode cX11_price 4 = .ok (.aload_n 0, 1) := by decide +kernel
theorem dX11_price_5 : decode cX11_price 5 = .ok (.getfield 121, 3) := by decide +kernel
theorem dX11_price_8 : decode cX11_price 8 = .ok (.invokevirtual 129, 3) := by decide +kernel
theorem dX11_price_11 : decode cX11_price 11 = .ok (.istore_n 1, 1) := by decide +kernel
theorem dX11_price_12 : decode cX11_price 12 = .ok (.aload_n 0, 1) := by decide +kernel
theorem dX11_price_13 : decode cX11_price 13 = .ok (.iconst 0, 1) := by decide +kernel
theorem dX11_price_14 : decode cX11_price 14 = .ok (.putfield 121, 3) := by decide +kernel
theorem dX11_price_17 : decode cX11_price 17 = .ok (.iload_n 1, 1) := by decide +kernel
theorem dX11_price_18 : decode cX11_price 18 = .ok (.ireturn, 1) := by decide +kernel
set_option maxRecDepth 100000 in
set_option maxHeartbeats 4000000 in
theorem B_X11_price_0 {κ : Nat → List Value → List Value → m2M → Prop} {D : Nat} {Q : Option Value → m2M → Prop} (h : m2_RL κ cX11_price RX11 2 (D + 1) (some .int) Q)  {μ : m2M} (k : ∃ Q3 : Option Value → m2M → Prop, m2_MT D yX7_read cX7_read 4 (some .int) [.ref kE, .int (μ.1 kC 1)] μ Q3 ∧ ∀ (y1 : Int32) (μ2 : m2M), Q3 (some (.int y1)) μ2 → (Q (some (.int y1)) (m2_si μ2 kC 1 0))) : κ 0 [.ref kC, .null] [] μ := by
  have hB := h.b
  refine m2_aload_n hB dX11_price_0 rfl ?_
  refine m2_getR hB dX11_price_1 fl_X11_64 sh_kC (c1 := kE) rfl ?_
  refine m2_aload_n hB dX11_price_4 rfl ?_
  refine m2_getI hB dX11_price_5 fl_X11_121 sh_kC rfl ?_
  obtain ⟨Q3, hM4, k⟩ := k
  refine m2_invi hB (as := [.int (μ.1 kC 1)]) dX11_price_8 mv_X11_129 rfl sh_kE rfl (Nat.le_of_ble_eq_true rfl) rfl hM4 (fun y1 μ2 hq5 => ?_)
  replace k := k y1 μ2 hq5
  refine m2_istore_n hB (ls' := [.ref kC, .int y1]) dX11_price_11 rfl (by decide) rfl ?_
  refine m2_aload_n hB dX11_price_12 rfl ?_
  refine m2_iconst hB dX11_price_13 (v := 0) (by decide) ?_
  refine m2_putI hB dX11_price_14 fl_X11_121 sh_kC rfl ?_
  refine m2_iload_n hB dX11_price_17 rfl ?_
  exact m2_iret h dX11_price_18 k
theorem dX11_sheet_0 : decode cX11_sheet 0 = .ok (.iload_n 1, 1) := by decide +kernel
theorem dX11_sheet_1 : decode cX11_sheet 1 = .ok (.ifCond .lt 14, 3) := by decide +kernel
theorem dX11_sheet_4 : decode cX11_sheet 4 = .ok (.iload_n 1, 1) := by decide +kernel
theorem dX11_sheet_5 : decode cX11_sheet 5 = .ok (.iconst 3, 1) := by decide +kernel
theorem dX11_sheet_6 : decode cX11_sheet 6 = .ok (.if_icmp .gt 9, 3) := by decide +kernel
theorem dX11_sheet_9 : decode cX11_sheet 9 = .ok (.iload_n 2, 1) := by decide +kernel
theorem dX11_sheet_10 : decode cX11_sheet 10 = .ok (.bipush 20, 2) := by decide +kernel
theorem dX11_sheet_12 : decode cX11_sheet 12 = .ok (.if_icmp .le 5, 3) := by decide +kernel
theorem dX11_sheet_15 : decode cX11_sheet 15 = .ok (.iconst (-1), 1) := by decide +kernel
theorem dX11_sheet_16 : decode cX11_sheet 16 = .ok (.ireturn, 1) := by decide +kernel
theorem dX11_sheet_17 : decode cX11_sheet 17 = .ok (.iload_n 1, 1) := by decide +kernel
theorem dX11_sheet_18 : decode cX11_sheet 18 = .ok (.iconst 3, 1) := by decide +kernel
theorem dX11_sheet_19 : decode cX11_sheet 19 = .ok (.if_icmp .ge 10, 3) := by decide +kernel
theorem dX11_sheet_22 : decode cX11_sheet 22 = .ok (.iload_n 2, 1) := by decide +kernel
theorem dX11_sheet_23 : decode cX11_sheet 23 = .ok (.ifCond .ge 6, 3) := by decide +kernel
theorem dX11_sheet_26 : decode cX11_sheet 26 = .ok (.bipush (-2), 2) := by decide +kernel
theorem dX11_sheet_28 : decode cX11_sheet 28 = .ok (.ireturn, 1) := by decide +kernel
theorem dX11_sheet_29 : decode cX11_sheet 29 = .ok (.iload_n 1, 1) := by decide +kernel
theorem dX11_sheet_30 : decode cX11_sheet 30 = .ok (.iconst 3, 1) := by decide +kernel
theorem dX11_sheet_31 : decode cX11_sheet 31 = .ok (.if_icmp .ge 7, 3) := by decide +kernel
theorem dX11_sheet_34 : decode cX11_sheet 34 = .ok (.iload_n 2, 1) := by decide +kernel
theorem dX11_sheet_35 : decode cX11_sheet 35 = .ok (.goto 4, 3) := by decide +kernel
theorem dX11_sheet_38 : decode cX11_sheet 38 = .ok (.iconst 0, 1) := by decide +kernel
theorem dX11_sheet_39 : decode cX11_sheet 39 = .ok (.istore 5, 2) := by decide +kernel
theorem dX11_sheet_41 : decode cX11_sheet 41 = .ok (.iconst 0, 1) := by decide +kernel
theorem dX11_sheet_42 : decode cX11_sheet 42 = .ok (.istore 6, 2) := by decide +kernel
theorem dX11_sheet_44 : decode cX11_sheet 44 = .ok (.iload 6, 2) := by decide +kernel
theorem dX11_sheet_46 : decode cX11_sheet 46 = .ok (.aload_n 0, 1) := by decide +kernel
theorem dX11_sheet_47 : decode cX11_sheet 47 = .ok (.getfield 39, 3) := by decide +kernel
theorem dX11_sheet_50 : decode cX11_sheet 50 = .ok (.getfield 191, 3) := by decide +kernel
theorem dX11_sheet_53 : decode cX11_sheet 53 = .ok (.if_icmp .ge 50, 3) := by decide +kernel
theorem dX11_sheet_56 : decode cX11_sheet 56 = .ok (.aload_n 0, 1) := by decide +kernel
theorem dX11_sheet_57 : decode cX11_sheet 57 = .ok (.getfield 39, 3) := by decide +kernel
theorem dX11_sheet_60 : decode cX11_sheet 60 = .ok (.getfield 158, 3) := by decide +kernel
theorem dX11_sheet_63 : decode cX11_sheet 63 = .ok (.iload 6, 2) := by decide +kernel
theorem dX11_sheet_65 : decode cX11_sheet 65 = .ok (.iload 6, 2) := by decide +kernel
theorem dX11_sheet_67 : decode cX11_sheet 67 = .ok (.iload 5, 2) := by decide +kernel
theorem dX11_sheet_69 : decode cX11_sheet 69 = .ok (.if_icmp .ge 17, 3) := by decide +kernel
theorem dX11_sheet_72 : decode cX11_sheet 72 = .ok (.iload_n 1, 1) := by decide +kernel
theorem dX11_sheet_73 : decode cX11_sheet 73 = .ok (.iload_n 3, 1) := by decide +kernel
theorem dX11_sheet_74 : decode cX11_sheet 74 = .ok (.iload 6, 2) := by decide +kernel
theorem dX11_sheet_76 : decode cX11_sheet 76 = .ok (.iload 4, 2) := by decide +kernel
theorem dX11_sheet_78 : decode cX11_sheet 78 = .ok (.imul, 1) := by decide +kernel
theorem dX11_sheet_79 : decode cX11_sheet 79 = .ok (.iadd, 1) := by decide +kernel
theorem dX11_sheet_80 : decode cX11_sheet 80 = .ok (.invokestatic 194, 3) := by decide +kernel
theorem dX11_sheet_83 : decode cX11_sheet 83 = .ok (.goto 13, 3) := by decide +kernel
theorem dX11_sheet_86 : decode cX11_sheet 86 = .ok (.aload_n 0, 1) := by decide +kernel
theorem dX11_sheet_87 : decode cX11_sheet 87 = .ok (.getfield 39, 3) := by decide +kernel
theorem dX11_sheet_90 : decode cX11_sheet 90 = .ok (.getfield 155, 3) := by decide +kernel
theorem dX11_sheet_93 : decode cX11_sheet 93 = .ok (.iload 6, 2) := by decide +kernel
theorem dX11_sheet_95 : decode cX11_sheet 95 = .ok (.iaload, 1) := by decide +kernel
theorem dX11_sheet_96 : decode cX11_sheet 96 = .ok (.iastore, 1) := by decide +kernel
theorem dX11_sheet_97 : decode cX11_sheet 97 = .ok (.iinc 6 1, 3) := by decide +kernel
theorem dX11_sheet_100 : decode cX11_sheet 100 = .ok (.goto (-56), 3) := by decide +kernel
theorem dX11_sheet_103 : decode cX11_sheet 103 = .ok (.iload_n 1, 1) := by decide +kernel
theorem dX11_sheet_104 : decode cX11_sheet 104 = .ok (.iconst 3, 1) := by decide +kernel
theorem dX11_sheet_105 : decode cX11_sheet 105 = .ok (.if_icmp .ge 13, 3) := by decide +kernel
theorem dX11_sheet_108 : decode cX11_sheet 108 = .ok (.aload_n 0, 1) := by decide +kernel
theorem dX11_sheet_109 : decode cX11_sheet 109 = .ok (.getfield 39, 3) := by decide +kernel
theorem dX11_sheet_112 : decode cX11_sheet 112 = .ok (.invokevirtual 198, 3) := by decide +kernel
theorem dX11_sheet_115 : decode cX11_sheet 115 = .ok (.goto 5, 3) := by decide +kernel
theorem dX11_sheet_118 : decode cX11_sheet 118 = .ok (.bipush (-3), 2) := by decide +kernel
theorem dX11_sheet_120 : decode cX11_sheet 120 = .ok (.ireturn, 1) := by decide +kernel
set_option maxRecDepth 100000 in
set_option maxHeartbeats 4000000 in
theorem B_X11_sheet_0 {κ : Nat → List Value → List Value → m2M → Prop} {D : Nat} {Q : Option Value → m2M → Prop} (h : m2_RL κ cX11_sheet RX11 7 D (some .int) Q) {x1 : Int32} {x2 : Int32} {x3 : Int32} {x4 : Int32} {μ : m2M} (k : (x1 < 0 → Q (some (.int (-1))) μ) ∧ (¬ x1 < 0 → (3 < x1 → Q (some (.int (-1))) μ) ∧ (¬ 3 < x1 → (x2 ≤ 20 → (3 ≤ x1 → κ 44 [.ref kC, .int x1, .int x2, .int x3, .int x4, .int (if 3 ≤ x1 then 0 else x2 : Int32), .int 0] [] μ) ∧ (¬ 3 ≤ x1 → (0 ≤ x2 → κ 44 [.ref kC, .int x1, .int x2, .int x3, .int x4, .int (if 3 ≤ x1 then 0 else x2 : Int32), .int 0] [] μ) ∧ (¬ 0 ≤ x2 → Q (some (.int (-2))) μ))) ∧ (¬ x2 ≤ 20 → Q (some (.int (-1))) μ)))) : κ 0 [.ref kC, .int x1, .int x2, .int x3, .int x4, .null, .null] [] μ := by
  have hB := h.b
  refine m2_iload_n hB dX11_sheet_0 rfl ?_
  refine m2_if_lt hB dX11_sheet_1 (tgt := 15) (by decide) (fun q1 : x1 < 0 => ?_) (fun q1 : ¬ x1 < 0 => ?_)
  · replace k := k.1 q1
    refine m2_iconst hB dX11_sheet_15 (v := (-1)) (by decide) ?_
    exact m2_iret h dX11_sheet_16 k
  · replace k := k.2 q1
    refine m2_iload_n hB dX11_sheet_4 rfl ?_
    refine m2_iconst hB dX11_sheet_5 (v := 3) (by decide) ?_
    refine m2_icmp_gt hB dX11_sheet_6 (tgt := 15) (by decide) (fun q2 : 3 < x1 => ?_) (fun q2 : ¬ 3 < x1 => ?_)
    · replace k := k.1 q2
      refine m2_iconst hB dX11_sheet_15 (v := (-1)) (by decide) ?_
      exact m2_iret h dX11_sheet_16 k
    · replace k := k.2 q2
      refine m2_iload_n hB dX11_sheet_9 rfl ?_
      refine m2_bipush hB dX11_sheet_10 (v := 20) (by decide) ?_
      refine m2_icmp_le hB dX11_sheet_12 (tgt := 17) (by decide) (fun q3 : x2 ≤ 20 => ?_) (fun q3 : ¬ x2 ≤ 20 => ?_)
      · replace k := k.1 q3
        refine m2_iload_n hB dX11_sheet_17 rfl ?_
        refine m2_iconst hB dX11_sheet_18 (v := 3) (by decide) ?_
        refine m2_icmp_ge hB dX11_sheet_19 (tgt := 29) (by decide) (fun q4 : 3 ≤ x1 => ?_) (fun q4 : ¬ 3 ≤ x1 => ?_)
        · replace k := k.1 q4
          refine m2_iload_n hB dX11_sheet_29 rfl ?_
          refine m2_iconst hB dX11_sheet_30 (v := 3) (by decide) ?_
          have G6 : κ 39 [.ref kC, .int x1, .int x2, .int x3, .int x4, .null, .null] [.int (if 3 ≤ x1 then 0 else x2 : Int32)] μ := by
            refine m2_istore hB (ls' := [.ref kC, .int x1, .int x2, .int x3, .int x4, .int (if 3 ≤ x1 then 0 else x2 : Int32), .null]) dX11_sheet_39 (by decide) rfl ?_
            refine m2_iconst hB dX11_sheet_41 (v := 0) (by decide) ?_
            refine m2_istore hB (ls' := [.ref kC, .int x1, .int x2, .int x3, .int x4, .int (if 3 ≤ x1 then 0 else x2 : Int32), .int 0]) dX11_sheet_42 (by decide) rfl ?_
            exact k
          refine m2_icmp_ge hB dX11_sheet_31 (tgt := 38) (by decide) (fun q5 : 3 ≤ x1 => ?_) (fun q5 : ¬ 3 ≤ x1 => ?_)
          · rw [if_pos q5] at G6
            refine m2_iconst hB dX11_sheet_38 (v := 0) (by decide) ?_
            exact G6
          · rw [if_neg q5] at G6
            refine m2_iload_n hB dX11_sheet_34 rfl ?_
            refine m2_goto hB dX11_sheet_35 (tgt := 39) (by decide) ?_
            exact G6
        · replace k := k.2 q4
          refine m2_iload_n hB dX11_sheet_22 rfl ?_
          refine m2_if_ge hB dX11_sheet_23 (tgt := 29) (by decide) (fun q7 : 0 ≤ x2 => ?_) (fun q7 : ¬ 0 ≤ x2 => ?_)
          · replace k := k.1 q7
            refine m2_iload_n hB dX11_sheet_29 rfl ?_
            refine m2_iconst hB dX11_sheet_30 (v := 3) (by decide) ?_
            have G9 : κ 39 [.ref kC, .int x1, .int x2, .int x3, .int x4, .null, .null] [.int (if 3 ≤ x1 then 0 else x2 : Int32)] μ := by
              refine m2_istore hB (ls' := [.ref kC, .int x1, .int x2, .int x3, .int x4, .int (if 3 ≤ x1 then 0 else x2 : Int32), .null]) dX11_sheet_39 (by decide) rfl ?_
              refine m2_iconst hB dX11_sheet_41 (v := 0) (by decide) ?_
              refine m2_istore hB (ls' := [.ref kC, .int x1, .int x2, .int x3, .int x4, .int (if 3 ≤ x1 then 0 else x2 : Int32), .int 0]) dX11_sheet_42 (by decide) rfl ?_
              exact k
            refine m2_icmp_ge hB dX11_sheet_31 (tgt := 38) (by decide) (fun q8 : 3 ≤ x1 => ?_) (fun q8 : ¬ 3 ≤ x1 => ?_)
            · rw [if_pos q8] at G9
              refine m2_iconst hB dX11_sheet_38 (v := 0) (by decide) ?_
              exact G9
            · rw [if_neg q8] at G9
              refine m2_iload_n hB dX11_sheet_34 rfl ?_
              refine m2_goto hB dX11_sheet_35 (tgt := 39) (by decide) ?_
              exact G9
          · replace k := k.2 q7
            refine m2_bipush hB dX11_sheet_26 (v := (-2)) (by decide) ?_
            exact m2_iret h dX11_sheet_28 k
      · replace k := k.2 q3
        refine m2_iconst hB dX11_sheet_15 (v := (-1)) (by decide) ?_
        exact m2_iret h dX11_sheet_16 k
set_option maxRecDepth 100000 in
set_option maxHeartbeats 4000000 in
theorem B_X11_sheet_44 {κ : Nat → List Value → List Value → m2M → Prop} {D : Nat} {Q : Option Value → m2M → Prop} (h : m2_RL κ cX11_sheet RX11 7 (D + 1) (some .int) Q) (hD : 1 ≤ D) {v1 : Int32} {v2 : Int32} {v3 : Int32} {v4 : Int32} {v5 : Int32} {v6 : Int32} {μ : m2M} (k : ((μ.1 kD 6) ≤ v6 → (3 ≤ v1 → Q (some (.int (-3))) μ) ∧ (¬ 3 ≤ v1 → ∃ Q6 : Option Value → m2M → Prop, m2_MT D yX0_sumLeft cX0_sumLeft 3 (some .int) [.ref kD] μ Q6 ∧ ∀ (y4 : Int32) (μ5 : m2M), Q6 (some (.int y4)) μ5 → (Q (some (.int y4)) μ5))) ∧ (¬ (μ.1 kD 6) ≤ v6 → (v5 ≤ v6 → (vp_in v6 20) ∧ (κ 44 [.ref kC, .int v1, .int v2, .int v3, .int v4, .int v5, .int (v6 + 1)] [] (m2_si μ kD_left (v6).toNatClampNeg (μ.1 kD_lets (v6).toNatClampNeg)))) ∧ (¬ v5 ≤ v6 → (vp_in v6 20) ∧ (κ 44 [.ref kC, .int v1, .int v2, .int v3, .int v4, .int v5, .int (v6 + 1)] [] (m2_si μ kD_left (v6).toNatClampNeg (fX11_sheetEntry v1 (v3 + (v6 * v4)))))))) : κ 44 [.ref kC, .int v1, .int v2, .int v3, .int v4, .int v5, .int v6] [] μ := by
  have hB := h.b
  refine m2_iload hB dX11_sheet_44 rfl ?_
  refine m2_aload_n hB dX11_sheet_46 rfl ?_
  refine m2_getR hB dX11_sheet_47 fl_X11_39 sh_kC (c1 := kD) rfl ?_
  refine m2_getI hB dX11_sheet_50 fl_X11_191 sh_kD rfl ?_
  refine m2_icmp_ge hB dX11_sheet_53 (tgt := 103) (by decide) (fun q2 : (μ.1 kD 6) ≤ v6 => ?_) (fun q2 : ¬ (μ.1 kD 6) ≤ v6 => ?_)
  · replace k := k.1 q2
    refine m2_iload_n hB dX11_sheet_103 rfl ?_
    refine m2_iconst hB dX11_sheet_104 (v := 3) (by decide) ?_
    refine m2_icmp_ge hB dX11_sheet_105 (tgt := 118) (by decide) (fun q3 : 3 ≤ v1 => ?_) (fun q3 : ¬ 3 ≤ v1 => ?_)
    · replace k := k.1 q3
      refine m2_bipush hB dX11_sheet_118 (v := (-3)) (by decide) ?_
      exact m2_iret h dX11_sheet_120 k
    · replace k := k.2 q3
      refine m2_aload_n hB dX11_sheet_108 rfl ?_
      refine m2_getR hB dX11_sheet_109 fl_X11_39 sh_kC (c1 := kD) rfl ?_
      obtain ⟨Q6, hM7, k⟩ := k
      refine m2_invi hB (as := []) dX11_sheet_112 mv_X11_198 rfl sh_kD rfl (Nat.le_of_ble_eq_true rfl) rfl hM7 (fun y4 μ5 hq8 => ?_)
      replace k := k y4 μ5 hq8
      refine m2_goto hB dX11_sheet_115 (tgt := 120) (by decide) ?_
      exact m2_iret h dX11_sheet_120 k
  · replace k := k.2 q2
    refine m2_aload_n hB dX11_sheet_56 rfl ?_
    refine m2_getR hB dX11_sheet_57 fl_X11_39 sh_kC (c1 := kD) rfl ?_
    refine m2_getR hB dX11_sheet_60 fl_X11_158 sh_kD (c1 := kD_left) rfl ?_
    refine m2_iload hB dX11_sheet_63 rfl ?_
    refine m2_iload hB dX11_sheet_65 rfl ?_
    refine m2_iload hB dX11_sheet_67 rfl ?_
    refine m2_icmp_ge hB dX11_sheet_69 (tgt := 86) (by decide) (fun q10 : v5 ≤ v6 => ?_) (fun q10 : ¬ v5 ≤ v6 => ?_)
    · replace k := k.1 q10
      refine m2_aload_n hB dX11_sheet_86 rfl ?_
      refine m2_getR hB dX11_sheet_87 fl_X11_39 sh_kC (c1 := kD) rfl ?_
      refine m2_getR hB dX11_sheet_90 fl_X11_155 sh_kD (c1 := kD_lets) rfl ?_
      refine m2_iload hB dX11_sheet_93 rfl ?_
      obtain ⟨hi11, k⟩ := k
      refine m2_iald hB dX11_sheet_95 sh_kD_lets hi11 ?_
      have hi12 := hi11
      refine m2_iast hB dX11_sheet_96 sh_kD_left hi12 ?_
      refine m2_iinc hB (ls' := [.ref kC, .int v1, .int v2, .int v3, .int v4, .int v5, .int (v6 + 1)]) (v := (v6 + 1)) dX11_sheet_97 rfl (by decide) rfl rfl ?_
      refine m2_goto hB dX11_sheet_100 (tgt := 44) (by decide) ?_
      exact k
    · replace k := k.2 q10
      refine m2_iload_n hB dX11_sheet_72 rfl ?_
      refine m2_iload_n hB dX11_sheet_73 rfl ?_
      refine m2_iload hB dX11_sheet_74 rfl ?_
      refine m2_iload hB dX11_sheet_76 rfl ?_
      refine m2_imul hB dX11_sheet_78 ?_
      refine m2_iadd hB dX11_sheet_79 ?_
      refine m2_invSi hB (as := [.int v1, .int (v3 + (v6 * v4))]) dX11_sheet_80 ms_X11_194 rfl (Nat.le_of_ble_eq_true rfl) rfl (P_X11_sheetEntry (by omega) (v1) ((v3 + (v6 * v4))) _ ) (fun y13 μ14 hq15 => ?_)
      obtain ⟨⟨⟩, hq15⟩ := hq15
      subst μ14
      refine m2_goto hB dX11_sheet_83 (tgt := 96) (by decide) ?_
      obtain ⟨hi16, k⟩ := k
      refine m2_iast hB dX11_sheet_96 sh_kD_left hi16 ?_
      refine m2_iinc hB (ls' := [.ref kC, .int v1, .int v2, .int v3, .int v4, .int v5, .int (v6 + 1)]) (v := (v6 + 1)) dX11_sheet_97 rfl (by decide) rfl rfl ?_
      refine m2_goto hB dX11_sheet_100 (tgt := 44) (by decide) ?_
      exact k
theorem dX11_keeps_0 : decode cX11_keeps 0 = .ok (.iload_n 1, 1) := by decide +kernel
theorem dX11_keeps_1 : decode cX11_keeps 1 = .ok (.ifCond .lt 9, 3) := by decide +kernel
theorem dX11_keeps_4 : decode cX11_keeps 4 = .ok (.iload_n 1, 1) := by decide +kernel
theorem dX11_keeps_5 : decode cX11_keeps 5 = .ok (.bipush 60, 2) := by decide +kernel
theorem dX11_keeps_7 : decode cX11_keeps 7 = .ok (.if_icmp .lt 5, 3) := by decide +kernel
theorem dX11_keeps_10 : decode cX11_keeps 10 = .ok (.iconst (-1), 1) := by decide +kernel
theorem dX11_keeps_11 : decode cX11_keeps 11 = .ok (.ireturn, 1) := by decide +kernel
theorem dX11_keeps_12 : decode cX11_keeps 12 = .ok (.aload_n 0, 1) := by decide +kernel
theorem dX11_keeps_13 : decode cX11_keeps 13 = .ok (.getfield 89, 3) := by decide +kernel
theorem dX11_keeps_16 : decode cX11_keeps 16 = .ok (.getfield 202, 3) := by decide +kernel
theorem dX11_keeps_19 : decode cX11_keeps 19 = .ok (.istore_n 2, 1) := by decide +kernel
theorem dX11_keeps_20 : decode cX11_keeps 20 = .ok (.aload_n 0, 1) := by decide +kernel
theorem dX11_keeps_21 : decode cX11_keeps 21 = .ok (.getfield 89, 3) := by decide +kernel
theorem dX11_keeps_24 : decode cX11_keeps 24 = .ok (.iload_n 1, 1) := by decide +kernel
theorem dX11_keeps_25 : decode cX11_keeps 25 = .ok (.putfield 202, 3) := by decide +kernel
theorem dX11_keeps_28 : decode cX11_keeps 28 = .ok (.iload_n 2, 1) := by decide +kernel
theorem dX11_keeps_29 : decode cX11_keeps 29 = .ok (.ireturn, 1) := by decide +kernel
set_option maxRecDepth 100000 in
set_option maxHeartbeats 4000000 in
theorem B_X11_keeps_0 {κ : Nat → List Value → List Value → m2M → Prop} {D : Nat} {Q : Option Value → m2M → Prop} (h : m2_RL κ cX11_keeps RX11 3 D (some .int) Q) {x1 : Int32} {μ : m2M} (k : (x1 < 0 → Q (some (.int (-1))) μ) ∧ (¬ x1 < 0 → (x1 < 60 → Q (some (.int (μ.1 kW 6))) (m2_si μ kW 6 x1)) ∧ (¬ x1 < 60 → Q (some (.int (-1))) μ))) : κ 0 [.ref kC, .int x1, .null] [] μ := by
  have hB := h.b
  refine m2_iload_n hB dX11_keeps_0 rfl ?_
  refine m2_if_lt hB dX11_keeps_1 (tgt := 10) (by decide) (fun q1 : x1 < 0 => ?_) (fun q1 : ¬ x1 < 0 => ?_)
  · replace k := k.1 q1
    refine m2_iconst hB dX11_keeps_10 (v := (-1)) (by decide) ?_
    exact m2_iret h dX11_keeps_11 k
  · replace k := k.2 q1
    refine m2_iload_n hB dX11_keeps_4 rfl ?_
    refine m2_bipush hB dX11_keeps_5 (v := 60) (by decide) ?_
    refine m2_icmp_lt hB dX11_keeps_7 (tgt := 12) (by decide) (fun q2 : x1 < 60 => ?_) (fun q2 : ¬ x1 < 60 => ?_)
    · replace k := k.1 q2
      refine m2_aload_n hB dX11_keeps_12 rfl ?_
      refine m2_getR hB dX11_keeps_13 fl_X11_89 sh_kC (c1 := kW) rfl ?_
      refine m2_getI hB dX11_keeps_16 fl_X11_202 sh_kW rfl ?_
      refine m2_istore_n hB (ls' := [.ref kC, .int x1, .int (μ.1 kW 6)]) dX11_keeps_19 rfl (by decide) rfl ?_
      refine m2_aload_n hB dX11_keeps_20 rfl ?_
      refine m2_getR hB dX11_keeps_21 fl_X11_89 sh_kC (c1 := kW) rfl ?_
      refine m2_iload_n hB dX11_keeps_24 rfl ?_
      refine m2_putI hB dX11_keeps_25 fl_X11_202 sh_kW rfl ?_
      refine m2_iload_n hB dX11_keeps_28 rfl ?_
      exact m2_iret h dX11_keeps_29 k
    · replace k := k.2 q2
      refine m2_iconst hB dX11_keeps_10 (v := (-1)) (by decide) ?_
      exact m2_iret h dX11_keeps_11 k
theorem dX11_hours_0 : decode cX11_hours 0 = .ok (.iload_n 1, 1) := by decide +kernel
theorem dX11_hours_1 : decode cX11_hours 1 = .ok (.ifCond .lt 23, 3) := by decide +kernel
theorem dX11_hours_4 : decode cX11_hours 4 = .ok (.iload_n 1, 1) := by decide +kernel
theorem dX11_hours_5 : decode cX11_hours 5 = .ok (.bipush 23, 2) := by decide +kernel
theorem dX11_hours_7 : decode cX11_hours 7 = .ok (.if_icmp .gt 17, 3) := by decide +kernel
theorem dX11_hours_10 : decode cX11_hours 10 = .ok (.aload_n 0, 1) := by decide +kernel
theorem dX11_hours_11 : decode cX11_hours 11 = .ok (.getfield 39, 3) := by decide +kernel
theorem dX11_hours_14 : decode cX11_hours 14 = .ok (.getfield 205, 3) := by decide +kernel
theorem dX11_hours_17 : decode cX11_hours 17 = .ok (.iload_n 1, 1) := by decide +kernel
theorem dX11_hours_18 : decode cX11_hours 18 = .ok (.iadd, 1) := by decide +kernel
theorem dX11_hours_19 : decode cX11_hours 19 = .ok (.bipush 23, 2) := by decide +kernel
theorem dX11_hours_21 : decode cX11_hours 21 = .ok (.if_icmp .le 5, 3) := by decide +kernel
theorem dX11_hours_24 : decode cX11_hours 24 = .ok (.iconst (-1), 1) := by decide +kernel
theorem dX11_hours_25 : decode cX11_hours 25 = .ok (.ireturn, 1) := by decide +kernel
theorem dX11_hours_26 : decode cX11_hours 26 = .ok (.aload_n 0, 1) := by decide +kernel
theorem dX11_hours_27 : decode cX11_hours 27 = .ok (.getfield 39, 3) := by decide +kernel
theorem dX11_hours_30 : decode cX11_hours 30 = .ok (.iload_n 1, 1) := by decide +kernel
theorem dX11_hours_31 : decode cX11_hours 31 = .ok (.invokevirtual 208, 3) := by decide +kernel
theorem dX11_hours_34 : decode cX11_hours 34 = .ok (.aload_n 0, 1) := by decide +kernel
theorem dX11_hours_35 : decode cX11_hours 35 = .ok (.getfield 39, 3) := by decide +kernel
theorem dX11_hours_38 : decode cX11_hours 38 = .ok (.getfield 205, 3) := by decide +kernel
theorem dX11_hours_41 : decode cX11_hours 41 = .ok (.ireturn, 1) := by decide +kernel
set_option maxRecDepth 100000 in
set_option maxHeartbeats 4000000 in
theorem B_X11_hours_0 {κ : Nat → List Value → List Value → m2M → Prop} {D : Nat} {Q : Option Value → m2M → Prop} (h : m2_RL κ cX11_hours RX11 2 (D + 1) (some .int) Q) {x1 : Int32} {μ : m2M} (k : (x1 < 0 → Q (some (.int (-1))) μ) ∧ (¬ x1 < 0 → (23 < x1 → Q (some (.int (-1))) μ) ∧ (¬ 23 < x1 → (((μ.1 kD 7) + x1) ≤ 23 → ∃ Q6 : Option Value → m2M → Prop, m2_MT D yX0_goOn cX0_goOn 4 none [.ref kD, .int x1] μ Q6 ∧ ∀ (μ5 : m2M), Q6 none μ5 → (Q (some (.int (μ5.1 kD 7))) μ5)) ∧ (¬ ((μ.1 kD 7) + x1) ≤ 23 → Q (some (.int (-1))) μ)))) : κ 0 [.ref kC, .int x1] [] μ := by
  have hB := h.b
  refine m2_iload_n hB dX11_hours_0 rfl ?_
  refine m2_if_lt hB dX11_hours_1 (tgt := 24) (by decide) (fun q1 : x1 < 0 => ?_) (fun q1 : ¬ x1 < 0 => ?_)
  · replace k := k.1 q1
    refine m2_iconst hB dX11_hours_24 (v := (-1)) (by decide) ?_
    exact m2_iret h dX11_hours_25 k
  · replace k := k.2 q1
    refine m2_iload_n hB dX11_hours_4 rfl ?_
    refine m2_bipush hB dX11_hours_5 (v := 23) (by decide) ?_
    refine m2_icmp_gt hB dX11_hours_7 (tgt := 24) (by decide) (fun q2 : 23 < x1 => ?_) (fun q2 : ¬ 23 < x1 => ?_)
    · replace k := k.1 q2
      refine m2_iconst hB dX11_hours_24 (v := (-1)) (by decide) ?_
      exact m2_iret h dX11_hours_25 k
    · replace k := k.2 q2
      refine m2_aload_n hB dX11_hours_10 rfl ?_
      refine m2_getR hB dX11_hours_11 fl_X11_39 sh_kC (c1 := kD) rfl ?_
      refine m2_getI hB dX11_hours_14 fl_X11_205 sh_kD rfl ?_
      refine m2_iload_n hB dX11_hours_17 rfl ?_
      refine m2_iadd hB dX11_hours_18 ?_
      refine m2_bipush hB dX11_hours_19 (v := 23) (by decide) ?_
      refine m2_icmp_le hB dX11_hours_21 (tgt := 26) (by decide) (fun q3 : ((μ.1 kD 7) + x1) ≤ 23 => ?_) (fun q3 : ¬ ((μ.1 kD 7) + x1) ≤ 23 => ?_)
      · replace k := k.1 q3
        refine m2_aload_n hB dX11_hours_26 rfl ?_
        refine m2_getR hB dX11_hours_27 fl_X11_39 sh_kC (c1 := kD) rfl ?_
        refine m2_iload_n hB dX11_hours_30 rfl ?_
        obtain ⟨Q6, hM7, k⟩ := k
        refine m2_invv hB (as := [.int x1]) dX11_hours_31 mv_X11_208 rfl sh_kD rfl (Nat.le_of_ble_eq_true rfl) rfl hM7 (fun μ5 hq8 => ?_)
        replace k := k μ5 hq8
        refine m2_aload_n hB dX11_hours_34 rfl ?_
        refine m2_getR hB dX11_hours_35 fl_X11_39 sh_kC (c1 := kD) rfl ?_
        refine m2_getI hB dX11_hours_38 fl_X11_205 sh_kD rfl ?_
        exact m2_iret h dX11_hours_41 k
      · replace k := k.2 q3
        refine m2_iconst hB dX11_hours_24 (v := (-1)) (by decide) ?_
        exact m2_iret h dX11_hours_25 k
theorem dX11_pass_0 : decode cX11_pass 0 = .ok (.aload_n 0, 1) := by decide +kernel
theorem dX11_pass_1 : decode cX11_pass 1 = .ok (.getfield 46, 3) := by decide +kernel
theorem dX11_pass_4 : decode cX11_pass 4 = .ok (.iload_n 1, 1) := by decide +kernel
theorem dX11_pass_5 : decode cX11_pass 5 = .ok (.invokevirtual 164, 3) := by decide +kernel
theorem dX11_pass_8 : decode cX11_pass 8 = .ok (.ifCond .eq 14, 3) := by decide +kernel
theorem dX11_pass_11 : decode cX11_pass 11 = .ok (.aload_n 0, 1) := by decide +kernel
theorem dX11_pass_12 : decode cX11_pass 12 = .ok (.getfield 39, 3) := by decide +kernel
theorem dX11_pass_15 : decode cX11_pass 15 = .ok (.iload_n 2, 1) := by decide +kernel
theorem dX11_pass_16 : decode cX11_pass 16 = .ok (.invokevirtual 130, 3) := by decide +kernel
theorem dX11_pass_19 : decode cX11_pass 19 = .ok (.ifCond .ne 5, 3) := by decide +kernel
theorem dX11_pass_22 : decode cX11_pass 22 = .ok (.iconst (-1), 1) := by decide +kernel
theorem dX11_pass_23 : decode cX11_pass 23 = .ok (.ireturn, 1) := by decide +kernel
theorem dX11_pass_24 : decode cX11_pass 24 = .ok (.aload_n 0, 1) := by decide +kernel
theorem dX11_pass_25 : decode cX11_pass 25 = .ok (.getfield 39, 3) := by decide +kernel
theorem dX11_pass_28 : decode cX11_pass 28 = .ok (.getfield 158, 3) := by decide +kernel
theorem dX11_pass_31 : decode cX11_pass 31 = .ok (.iload_n 2, 1) := by decide +kernel
theorem dX11_pass_32 : decode cX11_pass 32 = .ok (.iaload, 1) := by decide +kernel
theorem dX11_pass_33 : decode cX11_pass 33 = .ok (.ifCond .le 24, 3) := by decide +kernel
theorem dX11_pass_36 : decode cX11_pass 36 = .ok (.aload_n 0, 1) := by decide +kernel
theorem dX11_pass_37 : decode cX11_pass 37 = .ok (.getfield 39, 3) := by decide +kernel
theorem dX11_pass_40 : decode cX11_pass 40 = .ok (.iload_n 2, 1) := by decide +kernel
theorem dX11_pass_41 : decode cX11_pass 41 = .ok (.aload_n 0, 1) := by decide +kernel
theorem dX11_pass_42 : decode cX11_pass 42 = .ok (.getfield 46, 3) := by decide +kernel
theorem dX11_pass_45 : decode cX11_pass 45 = .ok (.getfield 167, 3) := by decide +kernel
theorem dX11_pass_48 : decode cX11_pass 48 = .ok (.iload_n 1, 1) := by decide +kernel
theorem dX11_pass_49 : decode cX11_pass 49 = .ok (.iaload, 1) := by decide +kernel
theorem dX11_pass_50 : decode cX11_pass 50 = .ok (.invokevirtual 212, 3) := by decide +kernel
theorem dX11_pass_53 : decode cX11_pass 53 = .ok (.iconst (-1), 1) := by decide +kernel
theorem dX11_pass_54 : decode cX11_pass 54 = .ok (.if_icmp .ne 6, 3) := by decide +kernel
theorem dX11_pass_57 : decode cX11_pass 57 = .ok (.bipush (-2), 2) := by decide +kernel
theorem dX11_pass_59 : decode cX11_pass 59 = .ok (.ireturn, 1) := by decide +kernel
theorem dX11_pass_60 : decode cX11_pass 60 = .ok (.aload_n 0, 1) := by decide +kernel
theorem dX11_pass_61 : decode cX11_pass 61 = .ok (.getfield 89, 3) := by decide +kernel
theorem dX11_pass_64 : decode cX11_pass 64 = .ok (.iload_n 1, 1) := by decide +kernel
theorem dX11_pass_65 : decode cX11_pass 65 = .ok (.iload_n 2, 1) := by decide +kernel
theorem dX11_pass_66 : decode cX11_pass 66 = .ok (.invokevirtual 215, 3) := by decide +kernel
theorem dX11_pass_69 : decode cX11_pass 69 = .ok (.aload_n 0, 1) := by decide +kernel
theorem dX11_pass_70 : decode cX11_pass 70 = .ok (.getfield 39, 3) := by decide +kernel
theorem dX11_pass_73 : decode cX11_pass 73 = .ok (.getfield 158, 3) := by decide +kernel
theorem dX11_pass_76 : decode cX11_pass 76 = .ok (.iload_n 2, 1) := by decide +kernel
theorem dX11_pass_77 : decode cX11_pass 77 = .ok (.iaload, 1) := by decide +kernel
theorem dX11_pass_78 : decode cX11_pass 78 = .ok (.ireturn, 1) := by decide +kernel
set_option maxRecDepth 100000 in
set_option maxHeartbeats 4000000 in
theorem B_X11_pass_0 {κ : Nat → List Value → List Value → m2M → Prop} {D : Nat} {Q : Option Value → m2M → Prop} (h : m2_RL κ cX11_pass RX11 3 (D + 1) (some .int) Q) (hD : 0 ≤ D) {x1 : Int32} {x2 : Int32} {μ : m2M} (k : ((fX6_has x1 μ) = 1 → ((fX0_has x2 μ) = 1 → (vp_in x2 20) ∧ (((μ.1 kD_left (x2).toNatClampNeg) ≤ 0 → Q (some (.int (-2))) μ) ∧ (¬ (μ.1 kD_left (x2).toNatClampNeg) ≤ 0 → (vp_in x1 8) ∧ ((¬ (fX0_beyond x2 (μ.1 kP_where (x1).toNatClampNeg) μ) = (-1) → ∃ Q19 : Option Value → m2M → Prop, m2_MT D yX10_goThrough cX10_goThrough 4 none [.ref kW, .int x1, .int x2] μ Q19 ∧ ∀ (μ18 : m2M), Q19 none μ18 → (Q (some (.int (μ18.1 kD_left (x2).toNatClampNeg))) μ18)) ∧ ((fX0_beyond x2 (μ.1 kP_where (x1).toNatClampNeg) μ) = (-1) → Q (some (.int (-2))) μ))))) ∧ (¬ (fX0_has x2 μ) = 1 → Q (some (.int (-1))) μ)) ∧ (¬ (fX6_has x1 μ) = 1 → Q (some (.int (-1))) μ)) : κ 0 [.ref kC, .int x1, .int x2] [] μ := by
  have hB := h.b
  refine m2_aload_n hB dX11_pass_0 rfl ?_
  refine m2_getR hB dX11_pass_1 fl_X11_46 sh_kC (c1 := kP) rfl ?_
  refine m2_iload_n hB dX11_pass_4 rfl ?_
  refine m2_invz hB (as := [.int x1]) dX11_pass_5 mv_X11_164 rfl sh_kP rfl (Nat.le_of_ble_eq_true rfl) rfl (P_X6_has (by omega) (x1) _ ) (fun y1 μ2 hq3 => ?_)
  obtain ⟨⟨⟩, hq3⟩ := hq3
  subst μ2
  show κ 8 [.ref kC, .int x1, .int x2] [.int (if (fX6_has x1 μ) = 1 then 1 else 0 : Int32)] μ
  by_cases q4 : (fX6_has x1 μ) = 1
  · rw [if_pos q4]
    replace k := k.1 q4
    refine m2_if_eq hB dX11_pass_8 (tgt := 22) (by decide) (fun q => absurd q (by decide)) (fun _ => ?_)
    refine m2_aload_n hB dX11_pass_11 rfl ?_
    refine m2_getR hB dX11_pass_12 fl_X11_39 sh_kC (c1 := kD) rfl ?_
    refine m2_iload_n hB dX11_pass_15 rfl ?_
    refine m2_invz hB (as := [.int x2]) dX11_pass_16 mv_X11_130 rfl sh_kD rfl (Nat.le_of_ble_eq_true rfl) rfl (P_X0_has (by omega) (x2) _ ) (fun y5 μ6 hq7 => ?_)
    obtain ⟨⟨⟩, hq7⟩ := hq7
    subst μ6
    show κ 19 [.ref kC, .int x1, .int x2] [.int (if (fX0_has x2 μ) = 1 then 1 else 0 : Int32)] μ
    by_cases q8 : (fX0_has x2 μ) = 1
    · rw [if_pos q8]
      replace k := k.1 q8
      refine m2_if_ne hB dX11_pass_19 (tgt := 24) (by decide) (fun _ => ?_) (fun q => absurd q (by decide))
      refine m2_aload_n hB dX11_pass_24 rfl ?_
      refine m2_getR hB dX11_pass_25 fl_X11_39 sh_kC (c1 := kD) rfl ?_
      refine m2_getR hB dX11_pass_28 fl_X11_158 sh_kD (c1 := kD_left) rfl ?_
      refine m2_iload_n hB dX11_pass_31 rfl ?_
      obtain ⟨hi9, k⟩ := k
      refine m2_iald hB dX11_pass_32 sh_kD_left hi9 ?_
      refine m2_if_le hB dX11_pass_33 (tgt := 57) (by decide) (fun q10 : (μ.1 kD_left (x2).toNatClampNeg) ≤ 0 => ?_) (fun q10 : ¬ (μ.1 kD_left (x2).toNatClampNeg) ≤ 0 => ?_)
      · replace k := k.1 q10
        refine m2_bipush hB dX11_pass_57 (v := (-2)) (by decide) ?_
        exact m2_iret h dX11_pass_59 k
      · replace k := k.2 q10
        refine m2_aload_n hB dX11_pass_36 rfl ?_
        refine m2_getR hB dX11_pass_37 fl_X11_39 sh_kC (c1 := kD) rfl ?_
        refine m2_iload_n hB dX11_pass_40 rfl ?_
        refine m2_aload_n hB dX11_pass_41 rfl ?_
        refine m2_getR hB dX11_pass_42 fl_X11_46 sh_kC (c1 := kP) rfl ?_
        refine m2_getR hB dX11_pass_45 fl_X11_167 sh_kP (c1 := kP_where) rfl ?_
        refine m2_iload_n hB dX11_pass_48 rfl ?_
        obtain ⟨hi11, k⟩ := k
        refine m2_iald hB dX11_pass_49 sh_kP_where hi11 ?_
        have hs12 := hi9
        refine m2_invi hB (as := [.int x2, .int (μ.1 kP_where (x1).toNatClampNeg)]) dX11_pass_50 mv_X11_212 rfl sh_kD rfl (Nat.le_of_ble_eq_true rfl) rfl (P_X0_beyond (by omega) (x2) ((μ.1 kP_where (x1).toNatClampNeg)) _ hs12) (fun y13 μ14 hq15 => ?_)
        obtain ⟨⟨⟩, hq15⟩ := hq15
        subst μ14
        refine m2_iconst hB dX11_pass_53 (v := (-1)) (by decide) ?_
        refine m2_icmp_ne hB dX11_pass_54 (tgt := 60) (by decide) (fun q16 : ¬ (fX0_beyond x2 (μ.1 kP_where (x1).toNatClampNeg) μ) = (-1) => ?_) (fun q16 : (fX0_beyond x2 (μ.1 kP_where (x1).toNatClampNeg) μ) = (-1) => ?_)
        · replace k := k.1 q16
          refine m2_aload_n hB dX11_pass_60 rfl ?_
          refine m2_getR hB dX11_pass_61 fl_X11_89 sh_kC (c1 := kW) rfl ?_
          refine m2_iload_n hB dX11_pass_64 rfl ?_
          refine m2_iload_n hB dX11_pass_65 rfl ?_
          obtain ⟨Q19, hM20, k⟩ := k
          refine m2_invv hB (as := [.int x1, .int x2]) dX11_pass_66 mv_X11_215 rfl sh_kW rfl (Nat.le_of_ble_eq_true rfl) rfl hM20 (fun μ18 hq21 => ?_)
          replace k := k μ18 hq21
          refine m2_aload_n hB dX11_pass_69 rfl ?_
          refine m2_getR hB dX11_pass_70 fl_X11_39 sh_kC (c1 := kD) rfl ?_
          refine m2_getR hB dX11_pass_73 fl_X11_158 sh_kD (c1 := kD_left) rfl ?_
          refine m2_iload_n hB dX11_pass_76 rfl ?_
          have hi22 := hi9
          refine m2_iald hB dX11_pass_77 sh_kD_left hi22 ?_
          exact m2_iret h dX11_pass_78 k
        · replace k := k.2 q16
          refine m2_bipush hB dX11_pass_57 (v := (-2)) (by decide) ?_
          exact m2_iret h dX11_pass_59 k
    · rw [if_neg q8]
      replace k := k.2 q8
      refine m2_if_ne hB dX11_pass_19 (tgt := 24) (by decide) (fun q => absurd q (by decide)) (fun _ => ?_)
      refine m2_iconst hB dX11_pass_22 (v := (-1)) (by decide) ?_
      exact m2_iret h dX11_pass_23 k
  · rw [if_neg q4]
    replace k := k.2 q4
    refine m2_if_eq hB dX11_pass_8 (tgt := 22) (by decide) (fun _ => ?_) (fun q => absurd q (by decide))
    refine m2_iconst hB dX11_pass_22 (v := (-1)) (by decide) ?_
    exact m2_iret h dX11_pass_23 k
theorem dX11_way_0 : decode cX11_way 0 = .ok (.aload_n 0, 1) := by decide +kernel
theorem dX11_way_1 : decode cX11_way 1 = .ok (.getfield 46, 3) := by decide +kernel
theorem dX11_way_4 : decode cX11_way 4 = .ok (.iload_n 1, 1) := by decide +kernel
theorem dX11_way_5 : decode cX11_way 5 = .ok (.invokevirtual 164, 3) := by decide +kernel
theorem dX11_way_8 : decode cX11_way 8 = .ok (.ifCond .eq 10, 3) := by decide +kernel
theorem dX11_way_11 : decode cX11_way 11 = .ok (.iload_n 2, 1) := by decide +kernel
theorem dX11_way_12 : decode cX11_way 12 = .ok (.invokestatic 219, 3) := by decide +kernel
theorem dX11_way_15 : decode cX11_way 15 = .ok (.ifCond .ne 5, 3) := by decide +kernel
theorem dX11_way_18 : decode cX11_way 18 = .ok (.iconst (-1), 1) := by decide +kernel
theorem dX11_way_19 : decode cX11_way 19 = .ok (.ireturn, 1) := by decide +kernel
theorem dX11_way_20 : decode cX11_way 20 = .ok (.aload_n 0, 1) := by decide +kernel
theorem dX11_way_21 : decode cX11_way 21 = .ok (.getfield 73, 3) := by decide +kernel
theorem dX11_way_24 : decode cX11_way 24 = .ok (.iconst 0, 1) := by decide +kernel
theorem dX11_way_25 : decode cX11_way 25 = .ok (.invokevirtual 222, 3) := by decide +kernel
theorem dX11_way_28 : decode cX11_way 28 = .ok (.aload_n 0, 1) := by decide +kernel
theorem dX11_way_29 : decode cX11_way 29 = .ok (.aload_n 0, 1) := by decide +kernel
theorem dX11_way_30 : decode cX11_way 30 = .ok (.getfield 73, 3) := by decide +kernel
theorem dX11_way_33 : decode cX11_way 33 = .ok (.aload_n 0, 1) := by decide +kernel
theorem dX11_way_34 : decode cX11_way 34 = .ok (.getfield 46, 3) := by decide +kernel
theorem dX11_way_37 : decode cX11_way 37 = .ok (.getfield 167, 3) := by decide +kernel
theorem dX11_way_40 : decode cX11_way 40 = .ok (.iload_n 1, 1) := by decide +kernel
theorem dX11_way_41 : decode cX11_way 41 = .ok (.iaload, 1) := by decide +kernel
theorem dX11_way_42 : decode cX11_way 42 = .ok (.iload_n 2, 1) := by decide +kernel
theorem dX11_way_43 : decode cX11_way 43 = .ok (.invokevirtual 225, 3) := by decide +kernel
theorem dX11_way_46 : decode cX11_way 46 = .ok (.invokevirtual 228, 3) := by decide +kernel
theorem dX11_way_49 : decode cX11_way 49 = .ok (.ireturn, 1) := by decide +kernel
set_option maxRecDepth 100000 in
set_option maxHeartbeats 4000000 in
theorem B_X11_way_0 {κ : Nat → List Value → List Value → m2M → Prop} {D : Nat} {Q : Option Value → m2M → Prop} (h : m2_RL κ cX11_way RX11 3 (D + 1) (some .int) Q) (hD : 0 ≤ D) {x1 : Int32} {x2 : Int32} {μ : m2M} (k : ((fX6_has x1 μ) = 1 → ((fX11_isRoom x2) = 1 → ∃ Q11 : Option Value → m2M → Prop, m2_MT D yX8_useAbove cX8_useAbove 3 none [.ref kR, .int 0] μ Q11 ∧ ∀ (μ10 : m2M), Q11 none μ10 → ((vp_in x1 8) ∧ (∃ Q17 : Option Value → m2M → Prop, m2_MT D yX8_find cX8_find 3 (some .int) [.ref kR, .int (μ10.1 kP_where (x1).toNatClampNeg), .int x2] μ10 Q17 ∧ ∀ (y15 : Int32) (μ16 : m2M), Q17 (some (.int y15)) μ16 → (∃ Q22 : Option Value → m2M → Prop, m2_MT D yX11_tellRoute cX11_tellRoute 3 (some .int) [.ref kC, .int y15] μ16 Q22 ∧ ∀ (y20 : Int32) (μ21 : m2M), Q22 (some (.int y20)) μ21 → (Q (some (.int y20)) μ21))))) ∧ (¬ (fX11_isRoom x2) = 1 → Q (some (.int (-1))) μ)) ∧ (¬ (fX6_has x1 μ) = 1 → Q (some (.int (-1))) μ)) : κ 0 [.ref kC, .int x1, .int x2] [] μ := by
  have hB := h.b
  refine m2_aload_n hB dX11_way_0 rfl ?_
  refine m2_getR hB dX11_way_1 fl_X11_46 sh_kC (c1 := kP) rfl ?_
  refine m2_iload_n hB dX11_way_4 rfl ?_
  refine m2_invz hB (as := [.int x1]) dX11_way_5 mv_X11_164 rfl sh_kP rfl (Nat.le_of_ble_eq_true rfl) rfl (P_X6_has (by omega) (x1) _ ) (fun y1 μ2 hq3 => ?_)
  obtain ⟨⟨⟩, hq3⟩ := hq3
  subst μ2
  show κ 8 [.ref kC, .int x1, .int x2] [.int (if (fX6_has x1 μ) = 1 then 1 else 0 : Int32)] μ
  by_cases q4 : (fX6_has x1 μ) = 1
  · rw [if_pos q4]
    replace k := k.1 q4
    refine m2_if_eq hB dX11_way_8 (tgt := 18) (by decide) (fun q => absurd q (by decide)) (fun _ => ?_)
    refine m2_iload_n hB dX11_way_11 rfl ?_
    refine m2_invSz hB (as := [.int x2]) dX11_way_12 ms_X11_219 rfl (Nat.le_of_ble_eq_true rfl) rfl (P_X11_isRoom (by omega) (x2) _ ) (fun y5 μ6 hq7 => ?_)
    obtain ⟨⟨⟩, hq7⟩ := hq7
    subst μ6
    show κ 15 [.ref kC, .int x1, .int x2] [.int (if (fX11_isRoom x2) = 1 then 1 else 0 : Int32)] μ
    by_cases q8 : (fX11_isRoom x2) = 1
    · rw [if_pos q8]
      replace k := k.1 q8
      refine m2_if_ne hB dX11_way_15 (tgt := 20) (by decide) (fun _ => ?_) (fun q => absurd q (by decide))
      refine m2_aload_n hB dX11_way_20 rfl ?_
      refine m2_getR hB dX11_way_21 fl_X11_73 sh_kC (c1 := kR) rfl ?_
      refine m2_iconst hB dX11_way_24 (v := 0) (by decide) ?_
      obtain ⟨Q11, hM12, k⟩ := k
      refine m2_invv hB (as := [.int 0]) dX11_way_25 mv_X11_222 rfl sh_kR rfl (Nat.le_of_ble_eq_true rfl) rfl hM12 (fun μ10 hq13 => ?_)
      replace k := k μ10 hq13
      refine m2_aload_n hB dX11_way_28 rfl ?_
      refine m2_aload_n hB dX11_way_29 rfl ?_
      refine m2_getR hB dX11_way_30 fl_X11_73 sh_kC (c1 := kR) rfl ?_
      refine m2_aload_n hB dX11_way_33 rfl ?_
      refine m2_getR hB dX11_way_34 fl_X11_46 sh_kC (c1 := kP) rfl ?_
      refine m2_getR hB dX11_way_37 fl_X11_167 sh_kP (c1 := kP_where) rfl ?_
      refine m2_iload_n hB dX11_way_40 rfl ?_
      obtain ⟨hi14, k⟩ := k
      refine m2_iald hB dX11_way_41 sh_kP_where hi14 ?_
      refine m2_iload_n hB dX11_way_42 rfl ?_
      obtain ⟨Q17, hM18, k⟩ := k
      refine m2_invi hB (as := [.int (μ10.1 kP_where (x1).toNatClampNeg), .int x2]) dX11_way_43 mv_X11_225 rfl sh_kR rfl (Nat.le_of_ble_eq_true rfl) rfl hM18 (fun y15 μ16 hq19 => ?_)
      replace k := k y15 μ16 hq19
      obtain ⟨Q22, hM23, k⟩ := k
      refine m2_invi hB (as := [.int y15]) dX11_way_46 mv_X11_228 rfl sh_kC rfl (Nat.le_of_ble_eq_true rfl) rfl hM23 (fun y20 μ21 hq24 => ?_)
      replace k := k y20 μ21 hq24
      exact m2_iret h dX11_way_49 k
    · rw [if_neg q8]
      replace k := k.2 q8
      refine m2_if_ne hB dX11_way_15 (tgt := 20) (by decide) (fun q => absurd q (by decide)) (fun _ => ?_)
      refine m2_iconst hB dX11_way_18 (v := (-1)) (by decide) ?_
      exact m2_iret h dX11_way_19 k
  · rw [if_neg q4]
    replace k := k.2 q4
    refine m2_if_eq hB dX11_way_8 (tgt := 18) (by decide) (fun _ => ?_) (fun q => absurd q (by decide))
    refine m2_iconst hB dX11_way_18 (v := (-1)) (by decide) ?_
    exact m2_iret h dX11_way_19 k
theorem dX11_may_0 : decode cX11_may 0 = .ok (.aload_n 0, 1) := by decide +kernel
theorem dX11_may_1 : decode cX11_may 1 = .ok (.getfield 46, 3) := by decide +kernel
theorem dX11_may_4 : decode cX11_may 4 = .ok (.iload_n 1, 1) := by decide +kernel
theorem dX11_may_5 : decode cX11_may 5 = .ok (.invokevirtual 164, 3) := by decide +kernel
theorem dX11_may_8 : decode cX11_may 8 = .ok (.ifCond .eq 22, 3) := by decide +kernel
theorem dX11_may_11 : decode cX11_may 11 = .ok (.aload_n 0, 1) := by decide +kernel
theorem dX11_may_12 : decode cX11_may 12 = .ok (.getfield 73, 3) := by decide +kernel
theorem dX11_may_15 : decode cX11_may 15 = .ok (.aload_n 0, 1) := by decide +kernel
theorem dX11_may_16 : decode cX11_may 16 = .ok (.getfield 46, 3) := by decide +kernel
theorem dX11_may_19 : decode cX11_may 19 = .ok (.getfield 167, 3) := by decide +kernel
theorem dX11_may_22 : decode cX11_may 22 = .ok (.iload_n 1, 1) := by decide +kernel
theorem dX11_may_23 : decode cX11_may 23 = .ok (.iaload, 1) := by decide +kernel
theorem dX11_may_24 : decode cX11_may 24 = .ok (.invokevirtual 231, 3) := by decide +kernel
theorem dX11_may_27 : decode cX11_may 27 = .ok (.goto 4, 3) := by decide +kernel
theorem dX11_may_30 : decode cX11_may 30 = .ok (.iconst (-1), 1) := by decide +kernel
theorem dX11_may_31 : decode cX11_may 31 = .ok (.ireturn, 1) := by decide +kernel
set_option maxRecDepth 100000 in
set_option maxHeartbeats 4000000 in
theorem B_X11_may_0 {κ : Nat → List Value → List Value → m2M → Prop} {D : Nat} {Q : Option Value → m2M → Prop} (h : m2_RL κ cX11_may RX11 2 (D + 1) (some .int) Q) (hD : 0 ≤ D) {x1 : Int32} {μ : m2M} (k : ((fX6_has x1 μ) = 1 → (vp_in x1 8) ∧ (∃ Q8 : Option Value → m2M → Prop, m2_MT D yX8_reach cX8_reach 6 (some .int) [.ref kR, .int (μ.1 kP_where (x1).toNatClampNeg)] μ Q8 ∧ ∀ (y6 : Int32) (μ7 : m2M), Q8 (some (.int y6)) μ7 → (Q (some (.int y6)) μ7))) ∧ (¬ (fX6_has x1 μ) = 1 → Q (some (.int (-1))) μ)) : κ 0 [.ref kC, .int x1] [] μ := by
  have hB := h.b
  refine m2_aload_n hB dX11_may_0 rfl ?_
  refine m2_getR hB dX11_may_1 fl_X11_46 sh_kC (c1 := kP) rfl ?_
  refine m2_iload_n hB dX11_may_4 rfl ?_
  refine m2_invz hB (as := [.int x1]) dX11_may_5 mv_X11_164 rfl sh_kP rfl (Nat.le_of_ble_eq_true rfl) rfl (P_X6_has (by omega) (x1) _ ) (fun y1 μ2 hq3 => ?_)
  obtain ⟨⟨⟩, hq3⟩ := hq3
  subst μ2
  show κ 8 [.ref kC, .int x1] [.int (if (fX6_has x1 μ) = 1 then 1 else 0 : Int32)] μ
  by_cases q4 : (fX6_has x1 μ) = 1
  · rw [if_pos q4]
    replace k := k.1 q4
    refine m2_if_eq hB dX11_may_8 (tgt := 30) (by decide) (fun q => absurd q (by decide)) (fun _ => ?_)
    refine m2_aload_n hB dX11_may_11 rfl ?_
    refine m2_getR hB dX11_may_12 fl_X11_73 sh_kC (c1 := kR) rfl ?_
    refine m2_aload_n hB dX11_may_15 rfl ?_
    refine m2_getR hB dX11_may_16 fl_X11_46 sh_kC (c1 := kP) rfl ?_
    refine m2_getR hB dX11_may_19 fl_X11_167 sh_kP (c1 := kP_where) rfl ?_
    refine m2_iload_n hB dX11_may_22 rfl ?_
    obtain ⟨hi5, k⟩ := k
    refine m2_iald hB dX11_may_23 sh_kP_where hi5 ?_
    obtain ⟨Q8, hM9, k⟩ := k
    refine m2_invi hB (as := [.int (μ.1 kP_where (x1).toNatClampNeg)]) dX11_may_24 mv_X11_231 rfl sh_kR rfl (Nat.le_of_ble_eq_true rfl) rfl hM9 (fun y6 μ7 hq10 => ?_)
    replace k := k y6 μ7 hq10
    refine m2_goto hB dX11_may_27 (tgt := 31) (by decide) ?_
    exact m2_iret h dX11_may_31 k
  · rw [if_neg q4]
    replace k := k.2 q4
    refine m2_if_eq hB dX11_may_8 (tgt := 30) (by decide) (fun _ => ?_) (fun q => absurd q (by decide))
    refine m2_iconst hB dX11_may_30 (v := (-1)) (by decide) ?_
    exact m2_iret h dX11_may_31 k
theorem dX11_goes_0 : decode cX11_goes 0 = .ok (.aload_n 0, 1) := by decide +kernel
theorem dX11_goes_1 : decode cX11_goes 1 = .ok (.getfield 46, 3) := by decide +kernel
theorem dX11_goes_4 : decode cX11_goes 4 = .ok (.iload_n 1, 1) := by decide +kernel
theorem dX11_goes_5 : decode cX11_goes 5 = .ok (.invokevirtual 164, 3) := by decide +kernel
theorem dX11_goes_8 : decode cX11_goes 8 = .ok (.ifCond .eq 10, 3) := by decide +kernel
theorem dX11_goes_11 : decode cX11_goes 11 = .ok (.iload_n 2, 1) := by decide +kernel
theorem dX11_goes_12 : decode cX11_goes 12 = .ok (.invokestatic 234, 3) := by decide +kernel
theorem dX11_goes_15 : decode cX11_goes 15 = .ok (.ifCond .ne 5, 3) := by decide +kernel
theorem dX11_goes_18 : decode cX11_goes 18 = .ok (.iconst (-1), 1) := by decide +kernel
theorem dX11_goes_19 : decode cX11_goes 19 = .ok (.ireturn, 1) := by decide +kernel
theorem dX11_goes_20 : decode cX11_goes 20 = .ok (.aload_n 0, 1) := by decide +kernel
theorem dX11_goes_21 : decode cX11_goes 21 = .ok (.getfield 46, 3) := by decide +kernel
theorem dX11_goes_24 : decode cX11_goes 24 = .ok (.iload_n 1, 1) := by decide +kernel
theorem dX11_goes_25 : decode cX11_goes 25 = .ok (.invokevirtual 237, 3) := by decide +kernel
theorem dX11_goes_28 : decode cX11_goes 28 = .ok (.ifCond .ne 10, 3) := by decide +kernel
theorem dX11_goes_31 : decode cX11_goes 31 = .ok (.aload_n 0, 1) := by decide +kernel
theorem dX11_goes_32 : decode cX11_goes 32 = .ok (.iconst 0, 1) := by decide +kernel
theorem dX11_goes_33 : decode cX11_goes 33 = .ok (.putfield 240, 3) := by decide +kernel
theorem dX11_goes_36 : decode cX11_goes 36 = .ok (.iconst 0, 1) := by decide +kernel
theorem dX11_goes_37 : decode cX11_goes 37 = .ok (.ireturn, 1) := by decide +kernel
theorem dX11_goes_38 : decode cX11_goes 38 = .ok (.aload_n 0, 1) := by decide +kernel
theorem dX11_goes_39 : decode cX11_goes 39 = .ok (.aload_n 0, 1) := by decide +kernel
theorem dX11_goes_40 : decode cX11_goes 40 = .ok (.getfield 89, 3) := by decide +kernel
theorem dX11_goes_43 : decode cX11_goes 43 = .ok (.iload_n 1, 1) := by decide +kernel
theorem dX11_goes_44 : decode cX11_goes 44 = .ok (.iload_n 2, 1) := by decide +kernel
theorem dX11_goes_45 : decode cX11_goes 45 = .ok (.invokevirtual 243, 3) := by decide +kernel
theorem dX11_goes_48 : decode cX11_goes 48 = .ok (.invokevirtual 228, 3) := by decide +kernel
theorem dX11_goes_51 : decode cX11_goes 51 = .ok (.ireturn, 1) := by decide +kernel
set_option maxRecDepth 100000 in
set_option maxHeartbeats 4000000 in
theorem B_X11_goes_0 {κ : Nat → List Value → List Value → m2M → Prop} {D : Nat} {Q : Option Value → m2M → Prop} (h : m2_RL κ cX11_goes RX11 3 (D + 1) (some .int) Q) (hD : 0 ≤ D) {x1 : Int32} {x2 : Int32} {μ : m2M} (k : ((fX6_has x1 μ) = 1 → ((fX11_isPlan x2) = 1 → (vp_in x1 8) ∧ (((fX6_isBusy x1 μ) = 1 → ∃ Q16 : Option Value → m2M → Prop, m2_MT D yX10_leg cX10_leg 6 (some .int) [.ref kW, .int x1, .int x2] μ Q16 ∧ ∀ (y14 : Int32) (μ15 : m2M), Q16 (some (.int y14)) μ15 → (∃ Q21 : Option Value → m2M → Prop, m2_MT D yX11_tellRoute cX11_tellRoute 3 (some .int) [.ref kC, .int y14] μ15 Q21 ∧ ∀ (y19 : Int32) (μ20 : m2M), Q21 (some (.int y19)) μ20 → (Q (some (.int y19)) μ20))) ∧ (¬ (fX6_isBusy x1 μ) = 1 → Q (some (.int 0)) (m2_si μ kC 3 0)))) ∧ (¬ (fX11_isPlan x2) = 1 → Q (some (.int (-1))) μ)) ∧ (¬ (fX6_has x1 μ) = 1 → Q (some (.int (-1))) μ)) : κ 0 [.ref kC, .int x1, .int x2] [] μ := by
  have hB := h.b
  refine m2_aload_n hB dX11_goes_0 rfl ?_
  refine m2_getR hB dX11_goes_1 fl_X11_46 sh_kC (c1 := kP) rfl ?_
  refine m2_iload_n hB dX11_goes_4 rfl ?_
  refine m2_invz hB (as := [.int x1]) dX11_goes_5 mv_X11_164 rfl sh_kP rfl (Nat.le_of_ble_eq_true rfl) rfl (P_X6_has (by omega) (x1) _ ) (fun y1 μ2 hq3 => ?_)
  obtain ⟨⟨⟩, hq3⟩ := hq3
  subst μ2
  show κ 8 [.ref kC, .int x1, .int x2] [.int (if (fX6_has x1 μ) = 1 then 1 else 0 : Int32)] μ
  by_cases q4 : (fX6_has x1 μ) = 1
  · rw [if_pos q4]
    replace k := k.1 q4
    refine m2_if_eq hB dX11_goes_8 (tgt := 18) (by decide) (fun q => absurd q (by decide)) (fun _ => ?_)
    refine m2_iload_n hB dX11_goes_11 rfl ?_
    refine m2_invSz hB (as := [.int x2]) dX11_goes_12 ms_X11_234 rfl (Nat.le_of_ble_eq_true rfl) rfl (P_X11_isPlan (by omega) (x2) _ ) (fun y5 μ6 hq7 => ?_)
    obtain ⟨⟨⟩, hq7⟩ := hq7
    subst μ6
    show κ 15 [.ref kC, .int x1, .int x2] [.int (if (fX11_isPlan x2) = 1 then 1 else 0 : Int32)] μ
    by_cases q8 : (fX11_isPlan x2) = 1
    · rw [if_pos q8]
      replace k := k.1 q8
      refine m2_if_ne hB dX11_goes_15 (tgt := 20) (by decide) (fun _ => ?_) (fun q => absurd q (by decide))
      refine m2_aload_n hB dX11_goes_20 rfl ?_
      refine m2_getR hB dX11_goes_21 fl_X11_46 sh_kC (c1 := kP) rfl ?_
      refine m2_iload_n hB dX11_goes_24 rfl ?_
      obtain ⟨hs9, k⟩ := k
      refine m2_invz hB (as := [.int x1]) dX11_goes_25 mv_X11_237 rfl sh_kP rfl (Nat.le_of_ble_eq_true rfl) rfl (P_X6_isBusy (by omega) (x1) _ hs9) (fun y10 μ11 hq12 => ?_)
      obtain ⟨⟨⟩, hq12⟩ := hq12
      subst μ11
      show κ 28 [.ref kC, .int x1, .int x2] [.int (if (fX6_isBusy x1 μ) = 1 then 1 else 0 : Int32)] μ
      by_cases q13 : (fX6_isBusy x1 μ) = 1
      · rw [if_pos q13]
        replace k := k.1 q13
        refine m2_if_ne hB dX11_goes_28 (tgt := 38) (by decide) (fun _ => ?_) (fun q => absurd q (by decide))
        refine m2_aload_n hB dX11_goes_38 rfl ?_
        refine m2_aload_n hB dX11_goes_39 rfl ?_
        refine m2_getR hB dX11_goes_40 fl_X11_89 sh_kC (c1 := kW) rfl ?_
        refine m2_iload_n hB dX11_goes_43 rfl ?_
        refine m2_iload_n hB dX11_goes_44 rfl ?_
        obtain ⟨Q16, hM17, k⟩ := k
        refine m2_invi hB (as := [.int x1, .int x2]) dX11_goes_45 mv_X11_243 rfl sh_kW rfl (Nat.le_of_ble_eq_true rfl) rfl hM17 (fun y14 μ15 hq18 => ?_)
        replace k := k y14 μ15 hq18
        obtain ⟨Q21, hM22, k⟩ := k
        refine m2_invi hB (as := [.int y14]) dX11_goes_48 mv_X11_228 rfl sh_kC rfl (Nat.le_of_ble_eq_true rfl) rfl hM22 (fun y19 μ20 hq23 => ?_)
        replace k := k y19 μ20 hq23
        exact m2_iret h dX11_goes_51 k
      · rw [if_neg q13]
        replace k := k.2 q13
        refine m2_if_ne hB dX11_goes_28 (tgt := 38) (by decide) (fun q => absurd q (by decide)) (fun _ => ?_)
        refine m2_aload_n hB dX11_goes_31 rfl ?_
        refine m2_iconst hB dX11_goes_32 (v := 0) (by decide) ?_
        refine m2_putI hB dX11_goes_33 fl_X11_240 sh_kC rfl ?_
        refine m2_iconst hB dX11_goes_36 (v := 0) (by decide) ?_
        exact m2_iret h dX11_goes_37 k
    · rw [if_neg q8]
      replace k := k.2 q8
      refine m2_if_ne hB dX11_goes_15 (tgt := 20) (by decide) (fun q => absurd q (by decide)) (fun _ => ?_)
      refine m2_iconst hB dX11_goes_18 (v := (-1)) (by decide) ?_
      exact m2_iret h dX11_goes_19 k
  · rw [if_neg q4]
    replace k := k.2 q4
    refine m2_if_eq hB dX11_goes_8 (tgt := 18) (by decide) (fun _ => ?_) (fun q => absurd q (by decide))
    refine m2_iconst hB dX11_goes_18 (v := (-1)) (by decide) ?_
    exact m2_iret h dX11_goes_19 k
theorem dX11_priced_0 : decode cX11_priced 0 = .ok (.aload_n 0, 1) := by decide +kernel
theorem dX11_priced_1 : decode cX11_priced 1 = .ok (.getfield 46, 3) := by decide +kernel
theorem dX11_priced_4 : decode cX11_priced 4 = .ok (.iload_n 1, 1) := by decide +kernel
theorem dX11_priced_5 : decode cX11_priced 5 = .ok (.invokevirtual 164, 3) := by decide +kernel
theorem dX11_priced_8 : decode cX11_priced 8 = .ok (.ifCond .eq 14, 3) := by decide +kernel
theorem dX11_priced_11 : decode cX11_priced 11 = .ok (.aload_n 0, 1) := by decide +kernel
theorem dX11_priced_12 : decode cX11_priced 12 = .ok (.getfield 39, 3) := by decide +kernel
theorem dX11_priced_15 : decode cX11_priced 15 = .ok (.iload_n 2, 1) := by decide +kernel
theorem dX11_priced_16 : decode cX11_priced 16 = .ok (.invokevirtual 130, 3) := by decide +kernel
theorem dX11_priced_19 : decode cX11_priced 19 = .ok (.ifCond .ne 5, 3) := by decide +kernel
theorem dX11_priced_22 : decode cX11_priced 22 = .ok (.iconst (-1), 1) := by decide +kernel
theorem dX11_priced_23 : decode cX11_priced 23 = .ok (.ireturn, 1) := by decide +kernel
theorem dX11_priced_24 : decode cX11_priced 24 = .ok (.aload_n 0, 1) := by decide +kernel
theorem dX11_priced_25 : decode cX11_priced 25 = .ok (.getfield 89, 3) := by decide +kernel
theorem dX11_priced_28 : decode cX11_priced 28 = .ok (.iload_n 1, 1) := by decide +kernel
theorem dX11_priced_29 : decode cX11_priced 29 = .ok (.invokevirtual 246, 3) := by decide +kernel
theorem dX11_priced_32 : decode cX11_priced 32 = .ok (.aload_n 0, 1) := by decide +kernel
theorem dX11_priced_33 : decode cX11_priced 33 = .ok (.getfield 89, 3) := by decide +kernel
theorem dX11_priced_36 : decode cX11_priced 36 = .ok (.iload_n 1, 1) := by decide +kernel
theorem dX11_priced_37 : decode cX11_priced 37 = .ok (.iload_n 2, 1) := by decide +kernel
theorem dX11_priced_38 : decode cX11_priced 38 = .ok (.invokevirtual 249, 3) := by decide +kernel
theorem dX11_priced_41 : decode cX11_priced 41 = .ok (.aload_n 0, 1) := by decide +kernel
theorem dX11_priced_42 : decode cX11_priced 42 = .ok (.getfield 64, 3) := by decide +kernel
theorem dX11_priced_45 : decode cX11_priced 45 = .ok (.invokevirtual 252, 3) := by decide +kernel
theorem dX11_priced_48 : decode cX11_priced 48 = .ok (.ireturn, 1) := by decide +kernel
set_option maxRecDepth 100000 in
set_option maxHeartbeats 4000000 in
theorem B_X11_priced_0 {κ : Nat → List Value → List Value → m2M → Prop} {D : Nat} {Q : Option Value → m2M → Prop} (h : m2_RL κ cX11_priced RX11 3 (D + 1) (some .int) Q) (hD : 0 ≤ D) {x1 : Int32} {x2 : Int32} {μ : m2M} (k : ((fX6_has x1 μ) = 1 → ((fX0_has x2 μ) = 1 → ∃ Q11 : Option Value → m2M → Prop, m2_MT D yX10_countWays cX10_countWays 6 none [.ref kW, .int x1] μ Q11 ∧ ∀ (μ10 : m2M), Q11 none μ10 → (∃ Q16 : Option Value → m2M → Prop, m2_MT D yX10_setPrice cX10_setPrice 3 none [.ref kW, .int x1, .int x2] μ10 Q16 ∧ ∀ (μ15 : m2M), Q16 none μ15 → (∃ Q21 : Option Value → m2M → Prop, m2_MT D yX7_workOut cX7_workOut 4 (some .int) [.ref kE] μ15 Q21 ∧ ∀ (y19 : Int32) (μ20 : m2M), Q21 (some (.int y19)) μ20 → (Q (some (.int y19)) μ20)))) ∧ (¬ (fX0_has x2 μ) = 1 → Q (some (.int (-1))) μ)) ∧ (¬ (fX6_has x1 μ) = 1 → Q (some (.int (-1))) μ)) : κ 0 [.ref kC, .int x1, .int x2] [] μ := by
  have hB := h.b
  refine m2_aload_n hB dX11_priced_0 rfl ?_
  refine m2_getR hB dX11_priced_1 fl_X11_46 sh_kC (c1 := kP) rfl ?_
  refine m2_iload_n hB dX11_priced_4 rfl ?_
  refine m2_invz hB (as := [.int x1]) dX11_priced_5 mv_X11_164 rfl sh_kP rfl (Nat.le_of_ble_eq_true rfl) rfl (P_X6_has (by omega) (x1) _ ) (fun y1 μ2 hq3 => ?_)
  obtain ⟨⟨⟩, hq3⟩ := hq3
  subst μ2
  show κ 8 [.ref kC, .int x1, .int x2] [.int (if (fX6_has x1 μ) = 1 then 1 else 0 : Int32)] μ
  by_cases q4 : (fX6_has x1 μ) = 1
  · rw [if_pos q4]
    replace k := k.1 q4
    refine m2_if_eq hB dX11_priced_8 (tgt := 22) (by decide) (fun q => absurd q (by decide)) (fun _ => ?_)
    refine m2_aload_n hB dX11_priced_11 rfl ?_
    refine m2_getR hB dX11_priced_12 fl_X11_39 sh_kC (c1 := kD) rfl ?_
    refine m2_iload_n hB dX11_priced_15 rfl ?_
    refine m2_invz hB (as := [.int x2]) dX11_priced_16 mv_X11_130 rfl sh_kD rfl (Nat.le_of_ble_eq_true rfl) rfl (P_X0_has (by omega) (x2) _ ) (fun y5 μ6 hq7 => ?_)
    obtain ⟨⟨⟩, hq7⟩ := hq7
    subst μ6
    show κ 19 [.ref kC, .int x1, .int x2] [.int (if (fX0_has x2 μ) = 1 then 1 else 0 : Int32)] μ
    by_cases q8 : (fX0_has x2 μ) = 1
    · rw [if_pos q8]
      replace k := k.1 q8
      refine m2_if_ne hB dX11_priced_19 (tgt := 24) (by decide) (fun _ => ?_) (fun q => absurd q (by decide))
      refine m2_aload_n hB dX11_priced_24 rfl ?_
      refine m2_getR hB dX11_priced_25 fl_X11_89 sh_kC (c1 := kW) rfl ?_
      refine m2_iload_n hB dX11_priced_28 rfl ?_
      obtain ⟨Q11, hM12, k⟩ := k
      refine m2_invv hB (as := [.int x1]) dX11_priced_29 mv_X11_246 rfl sh_kW rfl (Nat.le_of_ble_eq_true rfl) rfl hM12 (fun μ10 hq13 => ?_)
      replace k := k μ10 hq13
      refine m2_aload_n hB dX11_priced_32 rfl ?_
      refine m2_getR hB dX11_priced_33 fl_X11_89 sh_kC (c1 := kW) rfl ?_
      refine m2_iload_n hB dX11_priced_36 rfl ?_
      refine m2_iload_n hB dX11_priced_37 rfl ?_
      obtain ⟨Q16, hM17, k⟩ := k
      refine m2_invv hB (as := [.int x1, .int x2]) dX11_priced_38 mv_X11_249 rfl sh_kW rfl (Nat.le_of_ble_eq_true rfl) rfl hM17 (fun μ15 hq18 => ?_)
      replace k := k μ15 hq18
      refine m2_aload_n hB dX11_priced_41 rfl ?_
      refine m2_getR hB dX11_priced_42 fl_X11_64 sh_kC (c1 := kE) rfl ?_
      obtain ⟨Q21, hM22, k⟩ := k
      refine m2_invi hB (as := []) dX11_priced_45 mv_X11_252 rfl sh_kE rfl (Nat.le_of_ble_eq_true rfl) rfl hM22 (fun y19 μ20 hq23 => ?_)
      replace k := k y19 μ20 hq23
      exact m2_iret h dX11_priced_48 k
    · rw [if_neg q8]
      replace k := k.2 q8
      refine m2_if_ne hB dX11_priced_19 (tgt := 24) (by decide) (fun q => absurd q (by decide)) (fun _ => ?_)
      refine m2_iconst hB dX11_priced_22 (v := (-1)) (by decide) ?_
      exact m2_iret h dX11_priced_23 k
  · rw [if_neg q4]
    replace k := k.2 q4
    refine m2_if_eq hB dX11_priced_8 (tgt := 22) (by decide) (fun _ => ?_) (fun q => absurd q (by decide))
    refine m2_iconst hB dX11_priced_22 (v := (-1)) (by decide) ?_
    exact m2_iret h dX11_priced_23 k
theorem dX11_fro_0 : decode cX11_fro 0 = .ok (.aload_n 0, 1) := by decide +kernel
theorem dX11_fro_1 : decode cX11_fro 1 = .ok (.getfield 46, 3) := by decide +kernel
theorem dX11_fro_4 : decode cX11_fro 4 = .ok (.iload_n 1, 1) := by decide +kernel
theorem dX11_fro_5 : decode cX11_fro 5 = .ok (.invokevirtual 164, 3) := by decide +kernel
theorem dX11_fro_8 : decode cX11_fro 8 = .ok (.ifCond .eq 23, 3) := by decide +kernel
theorem dX11_fro_11 : decode cX11_fro 11 = .ok (.iload_n 2, 1) := by decide +kernel
theorem dX11_fro_12 : decode cX11_fro 12 = .ok (.invokestatic 219, 3) := by decide +kernel
theorem dX11_fro_15 : decode cX11_fro 15 = .ok (.ifCond .eq 16, 3) := by decide +kernel
theorem dX11_fro_18 : decode cX11_fro 18 = .ok (.iload_n 2, 1) := by decide +kernel
theorem dX11_fro_19 : decode cX11_fro 19 = .ok (.aload_n 0, 1) := by decide +kernel
theorem dX11_fro_20 : decode cX11_fro 20 = .ok (.getfield 46, 3) := by decide +kernel
theorem dX11_fro_23 : decode cX11_fro 23 = .ok (.getfield 167, 3) := by decide +kernel
theorem dX11_fro_26 : decode cX11_fro 26 = .ok (.iload_n 1, 1) := by decide +kernel
theorem dX11_fro_27 : decode cX11_fro 27 = .ok (.iaload, 1) := by decide +kernel
theorem dX11_fro_28 : decode cX11_fro 28 = .ok (.if_icmp .ne 5, 3) := by decide +kernel
theorem dX11_fro_31 : decode cX11_fro 31 = .ok (.iconst (-1), 1) := by decide +kernel
theorem dX11_fro_32 : decode cX11_fro 32 = .ok (.ireturn, 1) := by decide +kernel
theorem dX11_fro_33 : decode cX11_fro 33 = .ok (.aload_n 0, 1) := by decide +kernel
theorem dX11_fro_34 : decode cX11_fro 34 = .ok (.getfield 32, 3) := by decide +kernel
theorem dX11_fro_37 : decode cX11_fro 37 = .ok (.iconst 3, 1) := by decide +kernel
theorem dX11_fro_38 : decode cX11_fro 38 = .ok (.aaload, 1) := by decide +kernel
theorem dX11_fro_39 : decode cX11_fro 39 = .ok (.aload_n 0, 1) := by decide +kernel
theorem dX11_fro_40 : decode cX11_fro 40 = .ok (.getfield 39, 3) := by decide +kernel
theorem dX11_fro_43 : decode cX11_fro 43 = .ok (.aload_n 0, 1) := by decide +kernel
theorem dX11_fro_44 : decode cX11_fro 44 = .ok (.getfield 46, 3) := by decide +kernel
theorem dX11_fro_47 : decode cX11_fro 47 = .ok (.invokevirtual 255, 3) := by decide +kernel
theorem dX11_fro_50 : decode cX11_fro 50 = .ok (.aload_n 0, 1) := by decide +kernel
theorem dX11_fro_51 : decode cX11_fro 51 = .ok (.getfield 89, 3) := by decide +kernel
theorem dX11_fro_54 : decode cX11_fro 54 = .ok (.iload_n 1, 1) := by decide +kernel
theorem dX11_fro_55 : decode cX11_fro 55 = .ok (.iload_n 2, 1) := by decide +kernel
theorem dX11_fro_56 : decode cX11_fro 56 = .ok (.invokevirtual 259, 3) := by decide +kernel
theorem dX11_fro_59 : decode cX11_fro 59 = .ok (.istore_n 3, 1) := by decide +kernel
theorem dX11_fro_60 : decode cX11_fro 60 = .ok (.aload_n 0, 1) := by decide +kernel
theorem dX11_fro_61 : decode cX11_fro 61 = .ok (.getfield 32, 3) := by decide +kernel
theorem dX11_fro_64 : decode cX11_fro 64 = .ok (.iconst 3, 1) := by decide +kernel
theorem dX11_fro_65 : decode cX11_fro 65 = .ok (.aaload, 1) := by decide +kernel
theorem dX11_fro_66 : decode cX11_fro 66 = .ok (.aload_n 0, 1) := by decide +kernel
theorem dX11_fro_67 : decode cX11_fro 67 = .ok (.getfield 39, 3) := by decide +kernel
theorem dX11_fro_70 : decode cX11_fro 70 = .ok (.aload_n 0, 1) := by decide +kernel
theorem dX11_fro_71 : decode cX11_fro 71 = .ok (.getfield 46, 3) := by decide +kernel
theorem dX11_fro_74 : decode cX11_fro 74 = .ok (.invokevirtual 262, 3) := by decide +kernel
theorem dX11_fro_77 : decode cX11_fro 77 = .ok (.aload_n 0, 1) := by decide +kernel
theorem dX11_fro_78 : decode cX11_fro 78 = .ok (.iconst 0, 1) := by decide +kernel
theorem dX11_fro_79 : decode cX11_fro 79 = .ok (.putfield 240, 3) := by decide +kernel
theorem dX11_fro_82 : decode cX11_fro 82 = .ok (.aload_n 0, 1) := by decide +kernel
theorem dX11_fro_83 : decode cX11_fro 83 = .ok (.aload_n 0, 1) := by decide +kernel
theorem dX11_fro_84 : decode cX11_fro 84 = .ok (.getfield 89, 3) := by decide +kernel
theorem dX11_fro_87 : decode cX11_fro 87 = .ok (.getfield 265, 3) := by decide +kernel
theorem dX11_fro_90 : decode cX11_fro 90 = .ok (.invokestatic 151, 3) := by decide +kernel
theorem dX11_fro_93 : decode cX11_fro 93 = .ok (.i2l, 1) := by decide +kernel
theorem dX11_fro_94 : decode cX11_fro 94 = .ok (.invokevirtual 269, 3) := by decide +kernel
theorem dX11_fro_97 : decode cX11_fro 97 = .ok (.aload_n 0, 1) := by decide +kernel
theorem dX11_fro_98 : decode cX11_fro 98 = .ok (.aload_n 0, 1) := by decide +kernel
theorem dX11_fro_99 : decode cX11_fro 99 = .ok (.getfield 89, 3) := by decide +kernel
theorem dX11_fro_102 : decode cX11_fro 102 = .ok (.getfield 273, 3) := by decide +kernel
theorem dX11_fro_105 : decode cX11_fro 105 = .ok (.i2l, 1) := by decide +kernel
theorem dX11_fro_106 : decode cX11_fro 106 = .ok (.invokevirtual 269, 3) := by decide +kernel
theorem dX11_fro_109 : decode cX11_fro 109 = .ok (.iload_n 3, 1) := by decide +kernel
theorem dX11_fro_110 : decode cX11_fro 110 = .ok (.ireturn, 1) := by decide +kernel
set_option maxRecDepth 100000 in
set_option maxHeartbeats 4000000 in
theorem B_X11_fro_0 {κ : Nat → List Value → List Value → m2M → Prop} {D : Nat} {Q : Option Value → m2M → Prop} (h : m2_RL κ cX11_fro RX11 4 (D + 1) (some .int) Q) (hD : 0 ≤ D) {x1 : Int32} {x2 : Int32} {μ : m2M} (k : ((fX6_has x1 μ) = 1 → ((fX11_isRoom x2) = 1 → (vp_in x1 8) ∧ ((¬ x2 = (μ.1 kP_where (x1).toNatClampNeg) → ∃ j11 : Nat, 3 = nI j11 ∧ j11 < 4 ∧ (∃ Q15 : Option Value → m2M → Prop, m2_MT D yX3_take cX3_take 4 none [.ref (kK j11), .ref kD, .ref kP] μ Q15 ∧ ∀ (μ14 : m2M), Q15 none μ14 → (∃ Q20 : Option Value → m2M → Prop, m2_MT D yX10_toAndFro cX10_toAndFro 5 (some .int) [.ref kW, .int x1, .int x2] μ14 Q20 ∧ ∀ (y18 : Int32) (μ19 : m2M), Q20 (some (.int y18)) μ19 → (∃ j23 : Nat, 3 = nI j23 ∧ j23 < 4 ∧ (∃ Q27 : Option Value → m2M → Prop, m2_MT D yX3_giveBack cX3_giveBack 4 none [.ref (kK j23), .ref kD, .ref kP] μ19 Q27 ∧ ∀ (μ26 : m2M), Q27 none μ26 → (∃ Q35 : Option Value → m2M → Prop, m2_MT D yX11_tell cX11_tell 3 none [.ref kC, .long ((if (μ26.1 kW 8) = 0 then 0 else 1 : Int32)).toInt64] (m2_si μ26 kC 3 0) Q35 ∧ ∀ (μ34 : m2M), Q35 none μ34 → (∃ Q40 : Option Value → m2M → Prop, m2_MT D yX11_tell cX11_tell 3 none [.ref kC, .long ((μ34.1 kW 7)).toInt64] μ34 Q40 ∧ ∀ (μ39 : m2M), Q40 none μ39 → (Q (some (.int y18)) μ39)))))))) ∧ (x2 = (μ.1 kP_where (x1).toNatClampNeg) → Q (some (.int (-1))) μ))) ∧ (¬ (fX11_isRoom x2) = 1 → Q (some (.int (-1))) μ)) ∧ (¬ (fX6_has x1 μ) = 1 → Q (some (.int (-1))) μ)) : κ 0 [.ref kC, .int x1, .int x2, .null] [] μ := by
  have hB := h.b
  refine m2_aload_n hB dX11_fro_0 rfl ?_
  refine m2_getR hB dX11_fro_1 fl_X11_46 sh_kC (c1 := kP) rfl ?_
  refine m2_iload_n hB dX11_fro_4 rfl ?_
  refine m2_invz hB (as := [.int x1]) dX11_fro_5 mv_X11_164 rfl sh_kP rfl (Nat.le_of_ble_eq_true rfl) rfl (P_X6_has (by omega) (x1) _ ) (fun y1 μ2 hq3 => ?_)
  obtain ⟨⟨⟩, hq3⟩ := hq3
  subst μ2
  show κ 8 [.ref kC, .int x1, .int x2, .null] [.int (if (fX6_has x1 μ) = 1 then 1 else 0 : Int32)] μ
  by_cases q4 : (fX6_has x1 μ) = 1
  · rw [if_pos q4]
    replace k := k.1 q4
    refine m2_if_eq hB dX11_fro_8 (tgt := 31) (by decide) (fun q => absurd q (by decide)) (fun _ => ?_)
    refine m2_iload_n hB dX11_fro_11 rfl ?_
    refine m2_invSz hB (as := [.int x2]) dX11_fro_12 ms_X11_219 rfl (Nat.le_of_ble_eq_true rfl) rfl (P_X11_isRoom (by omega) (x2) _ ) (fun y5 μ6 hq7 => ?_)
    obtain ⟨⟨⟩, hq7⟩ := hq7
    subst μ6
    show κ 15 [.ref kC, .int x1, .int x2, .null] [.int (if (fX11_isRoom x2) = 1 then 1 else 0 : Int32)] μ
    by_cases q8 : (fX11_isRoom x2) = 1
    · rw [if_pos q8]
      replace k := k.1 q8
      refine m2_if_eq hB dX11_fro_15 (tgt := 31) (by decide) (fun q => absurd q (by decide)) (fun _ => ?_)
      refine m2_iload_n hB dX11_fro_18 rfl ?_
      refine m2_aload_n hB dX11_fro_19 rfl ?_
      refine m2_getR hB dX11_fro_20 fl_X11_46 sh_kC (c1 := kP) rfl ?_
      refine m2_getR hB dX11_fro_23 fl_X11_167 sh_kP (c1 := kP_where) rfl ?_
      refine m2_iload_n hB dX11_fro_26 rfl ?_
      obtain ⟨hi9, k⟩ := k
      refine m2_iald hB dX11_fro_27 sh_kP_where hi9 ?_
      refine m2_icmp_ne hB dX11_fro_28 (tgt := 33) (by decide) (fun q10 : ¬ x2 = (μ.1 kP_where (x1).toNatClampNeg) => ?_) (fun q10 : x2 = (μ.1 kP_where (x1).toNatClampNeg) => ?_)
      · replace k := k.1 q10
        refine m2_aload_n hB dX11_fro_33 rfl ?_
        refine m2_getR hB dX11_fro_34 fl_X11_32 sh_kC (c1 := kC_kept) rfl ?_
        refine m2_iconst hB dX11_fro_37 (v := 3) (by decide) ?_
        obtain ⟨j11, e12, h_j11, k⟩ := k
        refine m2_aald hB dX11_fro_38 sh_kC_kept (Or.inl rfl) (ar_kept e12 h_j11).1 (ar_kept e12 h_j11).2 ?_
        have h_j11 : j11 < 10 := by omega
        refine m2_aload_n hB dX11_fro_39 rfl ?_
        refine m2_getR hB dX11_fro_40 fl_X11_39 sh_kC (c1 := kD) rfl ?_
        refine m2_aload_n hB dX11_fro_43 rfl ?_
        refine m2_getR hB dX11_fro_44 fl_X11_46 sh_kC (c1 := kP) rfl ?_
        obtain ⟨Q15, hM16, k⟩ := k
        refine m2_invv hB (as := [.ref kD, .ref kP]) dX11_fro_47 mv_X11_255 rfl (sh_kK h_j11) rfl (Nat.le_of_ble_eq_true rfl) rfl hM16 (fun μ14 hq17 => ?_)
        replace k := k μ14 hq17
        refine m2_aload_n hB dX11_fro_50 rfl ?_
        refine m2_getR hB dX11_fro_51 fl_X11_89 sh_kC (c1 := kW) rfl ?_
        refine m2_iload_n hB dX11_fro_54 rfl ?_
        refine m2_iload_n hB dX11_fro_55 rfl ?_
        obtain ⟨Q20, hM21, k⟩ := k
        refine m2_invi hB (as := [.int x1, .int x2]) dX11_fro_56 mv_X11_259 rfl sh_kW rfl (Nat.le_of_ble_eq_true rfl) rfl hM21 (fun y18 μ19 hq22 => ?_)
        replace k := k y18 μ19 hq22
        refine m2_istore_n hB (ls' := [.ref kC, .int x1, .int x2, .int y18]) dX11_fro_59 rfl (by decide) rfl ?_
        refine m2_aload_n hB dX11_fro_60 rfl ?_
        refine m2_getR hB dX11_fro_61 fl_X11_32 sh_kC (c1 := kC_kept) rfl ?_
        refine m2_iconst hB dX11_fro_64 (v := 3) (by decide) ?_
        obtain ⟨j23, e24, h_j23, k⟩ := k
        refine m2_aald hB dX11_fro_65 sh_kC_kept (Or.inl rfl) (ar_kept e24 h_j23).1 (ar_kept e24 h_j23).2 ?_
        have h_j23 : j23 < 10 := by omega
        refine m2_aload_n hB dX11_fro_66 rfl ?_
        refine m2_getR hB dX11_fro_67 fl_X11_39 sh_kC (c1 := kD) rfl ?_
        refine m2_aload_n hB dX11_fro_70 rfl ?_
        refine m2_getR hB dX11_fro_71 fl_X11_46 sh_kC (c1 := kP) rfl ?_
        obtain ⟨Q27, hM28, k⟩ := k
        refine m2_invv hB (as := [.ref kD, .ref kP]) dX11_fro_74 mv_X11_262 rfl (sh_kK h_j23) rfl (Nat.le_of_ble_eq_true rfl) rfl hM28 (fun μ26 hq29 => ?_)
        replace k := k μ26 hq29
        refine m2_aload_n hB dX11_fro_77 rfl ?_
        refine m2_iconst hB dX11_fro_78 (v := 0) (by decide) ?_
        refine m2_putI hB dX11_fro_79 fl_X11_240 sh_kC rfl ?_
        refine m2_aload_n hB dX11_fro_82 rfl ?_
        refine m2_aload_n hB dX11_fro_83 rfl ?_
        refine m2_getR hB dX11_fro_84 fl_X11_89 sh_kC (c1 := kW) rfl ?_
        refine m2_getI hB dX11_fro_87 fl_X11_265 sh_kW rfl ?_
        refine m2_invSi hB (as := [.int (μ26.1 kW 8)]) dX11_fro_90 ms_X11_151 rfl (Nat.le_of_ble_eq_true rfl) rfl (P_X11_asNumber (by omega) ((μ26.1 kW 8)) _ ) (fun y30 μ31 hq32 => ?_)
        obtain ⟨⟨⟩, hq32⟩ := hq32
        subst μ31
        refine m2_i2l hB dX11_fro_93 ?_
        obtain ⟨Q35, hM36, k⟩ := k
        refine m2_invv hB (as := [.long ((if (μ26.1 kW 8) = 0 then 0 else 1 : Int32)).toInt64]) dX11_fro_94 mv_X11_269 rfl sh_kC rfl (Nat.le_of_ble_eq_true rfl) rfl hM36 (fun μ34 hq37 => ?_)
        replace k := k μ34 hq37
        refine m2_aload_n hB dX11_fro_97 rfl ?_
        refine m2_aload_n hB dX11_fro_98 rfl ?_
        refine m2_getR hB dX11_fro_99 fl_X11_89 sh_kC (c1 := kW) rfl ?_
        refine m2_getI hB dX11_fro_102 fl_X11_273 sh_kW rfl ?_
        refine m2_i2l hB dX11_fro_105 ?_
        obtain ⟨Q40, hM41, k⟩ := k
        refine m2_invv hB (as := [.long ((μ34.1 kW 7)).toInt64]) dX11_fro_106 mv_X11_269 rfl sh_kC rfl (Nat.le_of_ble_eq_true rfl) rfl hM41 (fun μ39 hq42 => ?_)
        replace k := k μ39 hq42
        refine m2_iload_n hB dX11_fro_109 rfl ?_
        exact m2_iret h dX11_fro_110 k
      · replace k := k.2 q10
        refine m2_iconst hB dX11_fro_31 (v := (-1)) (by decide) ?_
        exact m2_iret h dX11_fro_32 k
    · rw [if_neg q8]
      replace k := k.2 q8
      refine m2_if_eq hB dX11_fro_15 (tgt := 31) (by decide) (fun _ => ?_) (fun q => absurd q (by decide))
      refine m2_iconst hB dX11_fro_31 (v := (-1)) (by decide) ?_
      exact m2_iret h dX11_fro_32 k
  · rw [if_neg q4]
    replace k := k.2 q4
    refine m2_if_eq hB dX11_fro_8 (tgt := 31) (by decide) (fun _ => ?_) (fun q => absurd q (by decide))
    refine m2_iconst hB dX11_fro_31 (v := (-1)) (by decide) ?_
    exact m2_iret h dX11_fro_32 k
theorem dX11_crowd_0 : decode cX11_crowd 0 = .ok (.aload_n 0, 1) := by decide +kernel
theorem dX11_crowd_1 : decode cX11_crowd 1 = .ok (.getfield 89, 3) := by decide +kernel
theorem dX11_crowd_4 : decode cX11_crowd 4 = .ok (.iconst (-1), 1) := by decide +kernel
theorem dX11_crowd_5 : decode cX11_crowd 5 = .ok (.invokevirtual 246, 3) := by decide +kernel
theorem dX11_crowd_8 : decode cX11_crowd 8 = .ok (.iconst (-1), 1) := by decide +kernel
theorem dX11_crowd_9 : decode cX11_crowd 9 = .ok (.istore_n 1, 1) := by decide +kernel
theorem dX11_crowd_10 : decode cX11_crowd 10 = .ok (.iconst 0, 1) := by decide +kernel
theorem dX11_crowd_11 : decode cX11_crowd 11 = .ok (.istore_n 2, 1) := by decide +kernel
theorem dX11_crowd_12 : decode cX11_crowd 12 = .ok (.iload_n 2, 1) := by decide +kernel
theorem dX11_crowd_13 : decode cX11_crowd 13 = .ok (.aload_n 0, 1) := by decide +kernel
theorem dX11_crowd_14 : decode cX11_crowd 14 = .ok (.getfield 39, 3) := by decide +kernel
theorem dX11_crowd_17 : decode cX11_crowd 17 = .ok (.getfield 191, 3) := by decide +kernel
theorem dX11_crowd_20 : decode cX11_crowd 20 = .ok (.if_icmp .ge 41, 3) := by decide +kernel
theorem dX11_crowd_23 : decode cX11_crowd 23 = .ok (.aload_n 0, 1) := by decide +kernel
theorem dX11_crowd_24 : decode cX11_crowd 24 = .ok (.getfield 89, 3) := by decide +kernel
theorem dX11_crowd_27 : decode cX11_crowd 27 = .ok (.getfield 276, 3) := by decide +kernel
theorem dX11_crowd_30 : decode cX11_crowd 30 = .ok (.iload_n 2, 1) := by decide +kernel
theorem dX11_crowd_31 : decode cX11_crowd 31 = .ok (.iaload, 1) := by decide +kernel
theorem dX11_crowd_32 : decode cX11_crowd 32 = .ok (.iload_n 1, 1) := by decide +kernel
theorem dX11_crowd_33 : decode cX11_crowd 33 = .ok (.iconst (-1), 1) := by decide +kernel
theorem dX11_crowd_34 : decode cX11_crowd 34 = .ok (.if_icmp .ne 7, 3) := by decide +kernel
theorem dX11_crowd_37 : decode cX11_crowd 37 = .ok (.iconst 0, 1) := by decide +kernel
theorem dX11_crowd_38 : decode cX11_crowd 38 = .ok (.goto 12, 3) := by decide +kernel
theorem dX11_crowd_41 : decode cX11_crowd 41 = .ok (.aload_n 0, 1) := by decide +kernel
theorem dX11_crowd_42 : decode cX11_crowd 42 = .ok (.getfield 89, 3) := by decide +kernel
theorem dX11_crowd_45 : decode cX11_crowd 45 = .ok (.getfield 276, 3) := by decide +kernel
theorem dX11_crowd_48 : decode cX11_crowd 48 = .ok (.iload_n 1, 1) := by decide +kernel
theorem dX11_crowd_49 : decode cX11_crowd 49 = .ok (.iaload, 1) := by decide +kernel
theorem dX11_crowd_50 : decode cX11_crowd 50 = .ok (.if_icmp .le 5, 3) := by decide +kernel
theorem dX11_crowd_53 : decode cX11_crowd 53 = .ok (.iload_n 2, 1) := by decide +kernel
theorem dX11_crowd_54 : decode cX11_crowd 54 = .ok (.istore_n 1, 1) := by decide +kernel
theorem dX11_crowd_55 : decode cX11_crowd 55 = .ok (.iinc 2 1, 3) := by decide +kernel
theorem dX11_crowd_58 : decode cX11_crowd 58 = .ok (.goto (-46), 3) := by decide +kernel
theorem dX11_crowd_61 : decode cX11_crowd 61 = .ok (.iload_n 1, 1) := by decide +kernel
theorem dX11_crowd_62 : decode cX11_crowd 62 = .ok (.iconst (-1), 1) := by decide +kernel
theorem dX11_crowd_63 : decode cX11_crowd 63 = .ok (.if_icmp .ne 6, 3) := by decide +kernel
theorem dX11_crowd_66 : decode cX11_crowd 66 = .ok (.bipush (-2), 2) := by decide +kernel
theorem dX11_crowd_68 : decode cX11_crowd 68 = .ok (.ireturn, 1) := by decide +kernel
theorem dX11_crowd_69 : decode cX11_crowd 69 = .ok (.aload_n 0, 1) := by decide +kernel
theorem dX11_crowd_70 : decode cX11_crowd 70 = .ok (.getfield 89, 3) := by decide +kernel
theorem dX11_crowd_73 : decode cX11_crowd 73 = .ok (.getfield 279, 3) := by decide +kernel
theorem dX11_crowd_76 : decode cX11_crowd 76 = .ok (.iload_n 1, 1) := by decide +kernel
theorem dX11_crowd_77 : decode cX11_crowd 77 = .ok (.iaload, 1) := by decide +kernel
theorem dX11_crowd_78 : decode cX11_crowd 78 = .ok (.istore_n 2, 1) := by decide +kernel
theorem dX11_crowd_79 : decode cX11_crowd 79 = .ok (.aload_n 0, 1) := by decide +kernel
theorem dX11_crowd_80 : decode cX11_crowd 80 = .ok (.iconst 0, 1) := by decide +kernel
theorem dX11_crowd_81 : decode cX11_crowd 81 = .ok (.putfield 240, 3) := by decide +kernel
theorem dX11_crowd_84 : decode cX11_crowd 84 = .ok (.aload_n 0, 1) := by decide +kernel
theorem dX11_crowd_85 : decode cX11_crowd 85 = .ok (.aload_n 0, 1) := by decide +kernel
theorem dX11_crowd_86 : decode cX11_crowd 86 = .ok (.getfield 89, 3) := by decide +kernel
theorem dX11_crowd_89 : decode cX11_crowd 89 = .ok (.getfield 276, 3) := by decide +kernel
theorem dX11_crowd_92 : decode cX11_crowd 92 = .ok (.iload_n 1, 1) := by decide +kernel
theorem dX11_crowd_93 : decode cX11_crowd 93 = .ok (.iaload, 1) := by decide +kernel
theorem dX11_crowd_94 : decode cX11_crowd 94 = .ok (.i2l, 1) := by decide +kernel
theorem dX11_crowd_95 : decode cX11_crowd 95 = .ok (.invokevirtual 269, 3) := by decide +kernel
theorem dX11_crowd_98 : decode cX11_crowd 98 = .ok (.aload_n 0, 1) := by decide +kernel
theorem dX11_crowd_99 : decode cX11_crowd 99 = .ok (.iload_n 2, 1) := by decide +kernel
theorem dX11_crowd_100 : decode cX11_crowd 100 = .ok (.aload_n 0, 1) := by decide +kernel
theorem dX11_crowd_101 : decode cX11_crowd 101 = .ok (.getfield 39, 3) := by decide +kernel
theorem dX11_crowd_104 : decode cX11_crowd 104 = .ok (.getfield 158, 3) := by decide +kernel
theorem dX11_crowd_107 : decode cX11_crowd 107 = .ok (.iload_n 1, 1) := by decide +kernel
theorem dX11_crowd_108 : decode cX11_crowd 108 = .ok (.iaload, 1) := by decide +kernel
theorem dX11_crowd_109 : decode cX11_crowd 109 = .ok (.aload_n 0, 1) := by decide +kernel
theorem dX11_crowd_110 : decode cX11_crowd 110 = .ok (.getfield 89, 3) := by decide +kernel
theorem dX11_crowd_113 : decode cX11_crowd 113 = .ok (.getfield 276, 3) := by decide +kernel
theorem dX11_crowd_116 : decode cX11_crowd 116 = .ok (.iload_n 1, 1) := by decide +kernel
theorem dX11_crowd_117 : decode cX11_crowd 117 = .ok (.iaload, 1) := by decide +kernel
theorem dX11_crowd_118 : decode cX11_crowd 118 = .ok (.iload_n 2, 1) := by decide +kernel
theorem dX11_crowd_119 : decode cX11_crowd 119 = .ok (.isub, 1) := by decide +kernel
theorem dX11_crowd_120 : decode cX11_crowd 120 = .ok (.invokestatic 282, 3) := by decide +kernel
theorem dX11_crowd_123 : decode cX11_crowd 123 = .ok (.iadd, 1) := by decide +kernel
theorem dX11_crowd_124 : decode cX11_crowd 124 = .ok (.i2l, 1) := by decide +kernel
theorem dX11_crowd_125 : decode cX11_crowd 125 = .ok (.invokevirtual 269, 3) := by decide +kernel
theorem dX11_crowd_128 : decode cX11_crowd 128 = .ok (.iload_n 1, 1) := by decide +kernel
theorem dX11_crowd_129 : decode cX11_crowd 129 = .ok (.ireturn, 1) := by decide +kernel
set_option maxRecDepth 100000 in
set_option maxHeartbeats 4000000 in
theorem B_X11_crowd_0 {κ : Nat → List Value → List Value → m2M → Prop} {D : Nat} {Q : Option Value → m2M → Prop} (h : m2_RL κ cX11_crowd RX11 3 (D + 1) (some .int) Q)  {μ : m2M} (k : ∃ Q3 : Option Value → m2M → Prop, m2_MT D yX10_countWays cX10_countWays 6 none [.ref kW, .int (-1)] μ Q3 ∧ ∀ (μ2 : m2M), Q3 none μ2 → (κ 12 [.ref kC, .int (-1), .int 0] [] μ2)) : κ 0 [.ref kC, .null, .null] [] μ := by
  have hB := h.b
  refine m2_aload_n hB dX11_crowd_0 rfl ?_
  refine m2_getR hB dX11_crowd_1 fl_X11_89 sh_kC (c1 := kW) rfl ?_
  refine m2_iconst hB dX11_crowd_4 (v := (-1)) (by decide) ?_
  obtain ⟨Q3, hM4, k⟩ := k
  refine m2_invv hB (as := [.int (-1)]) dX11_crowd_5 mv_X11_246 rfl sh_kW rfl (Nat.le_of_ble_eq_true rfl) rfl hM4 (fun μ2 hq5 => ?_)
  replace k := k μ2 hq5
  refine m2_iconst hB dX11_crowd_8 (v := (-1)) (by decide) ?_
  refine m2_istore_n hB (ls' := [.ref kC, .int (-1), .null]) dX11_crowd_9 rfl (by decide) rfl ?_
  refine m2_iconst hB dX11_crowd_10 (v := 0) (by decide) ?_
  refine m2_istore_n hB (ls' := [.ref kC, .int (-1), .int 0]) dX11_crowd_11 rfl (by decide) rfl ?_
  exact k
set_option maxRecDepth 100000 in
set_option maxHeartbeats 4000000 in
theorem B_X11_crowd_12 {κ : Nat → List Value → List Value → m2M → Prop} {D : Nat} {Q : Option Value → m2M → Prop} (h : m2_RL κ cX11_crowd RX11 3 (D + 1) (some .int) Q) (hD : 0 ≤ D) {v1 : Int32} {v2 : Int32} {μ : m2M} (k : ((μ.1 kD 6) ≤ v2 → (¬ v1 = (-1) → (vp_in v1 20) ∧ (∃ Q8 : Option Value → m2M → Prop, m2_MT D yX11_tell cX11_tell 3 none [.ref kC, .long ((μ.1 kW_onWay (v1).toNatClampNeg)).toInt64] (m2_si μ kC 3 0) Q8 ∧ ∀ (μ7 : m2M), Q8 none μ7 → (∃ Q15 : Option Value → m2M → Prop, m2_MT D yX11_tell cX11_tell 3 none [.ref kC, .long (((μ.1 kW_strangersOnWay (v1).toNatClampNeg) + (m2_min (μ7.1 kD_left (v1).toNatClampNeg) ((μ7.1 kW_onWay (v1).toNatClampNeg) - (μ.1 kW_strangersOnWay (v1).toNatClampNeg))))).toInt64] μ7 Q15 ∧ ∀ (μ14 : m2M), Q15 none μ14 → (Q (some (.int v1)) μ14)))) ∧ (v1 = (-1) → Q (some (.int (-2))) μ)) ∧ (¬ (μ.1 kD 6) ≤ v2 → (vp_in v2 20) ∧ ((¬ v1 = (-1) → (vp_in v1 20) ∧ (κ 12 [.ref kC, .int (if (μ.1 kW_onWay (v2).toNatClampNeg) ≤ (μ.1 kW_onWay (v1).toNatClampNeg) then v1 else v2 : Int32), .int (v2 + 1)] [] μ)) ∧ (v1 = (-1) → κ 12 [.ref kC, .int (if (μ.1 kW_onWay (v2).toNatClampNeg) ≤ 0 then v1 else v2 : Int32), .int (v2 + 1)] [] μ)))) : κ 12 [.ref kC, .int v1, .int v2] [] μ := by
  have hB := h.b
  refine m2_iload_n hB dX11_crowd_12 rfl ?_
  refine m2_aload_n hB dX11_crowd_13 rfl ?_
  refine m2_getR hB dX11_crowd_14 fl_X11_39 sh_kC (c1 := kD) rfl ?_
  refine m2_getI hB dX11_crowd_17 fl_X11_191 sh_kD rfl ?_
  refine m2_icmp_ge hB dX11_crowd_20 (tgt := 61) (by decide) (fun q2 : (μ.1 kD 6) ≤ v2 => ?_) (fun q2 : ¬ (μ.1 kD 6) ≤ v2 => ?_)
  · replace k := k.1 q2
    refine m2_iload_n hB dX11_crowd_61 rfl ?_
    refine m2_iconst hB dX11_crowd_62 (v := (-1)) (by decide) ?_
    refine m2_icmp_ne hB dX11_crowd_63 (tgt := 69) (by decide) (fun q3 : ¬ v1 = (-1) => ?_) (fun q3 : v1 = (-1) => ?_)
    · replace k := k.1 q3
      refine m2_aload_n hB dX11_crowd_69 rfl ?_
      refine m2_getR hB dX11_crowd_70 fl_X11_89 sh_kC (c1 := kW) rfl ?_
      refine m2_getR hB dX11_crowd_73 fl_X11_279 sh_kW (c1 := kW_strangersOnWay) rfl ?_
      refine m2_iload_n hB dX11_crowd_76 rfl ?_
      obtain ⟨hi4, k⟩ := k
      refine m2_iald hB dX11_crowd_77 sh_kW_strangersOnWay hi4 ?_
      refine m2_istore_n hB (ls' := [.ref kC, .int v1, .int (μ.1 kW_strangersOnWay (v1).toNatClampNeg)]) dX11_crowd_78 rfl (by decide) rfl ?_
      refine m2_aload_n hB dX11_crowd_79 rfl ?_
      refine m2_iconst hB dX11_crowd_80 (v := 0) (by decide) ?_
      refine m2_putI hB dX11_crowd_81 fl_X11_240 sh_kC rfl ?_
      refine m2_aload_n hB dX11_crowd_84 rfl ?_
      refine m2_aload_n hB dX11_crowd_85 rfl ?_
      refine m2_getR hB dX11_crowd_86 fl_X11_89 sh_kC (c1 := kW) rfl ?_
      refine m2_getR hB dX11_crowd_89 fl_X11_276 sh_kW (c1 := kW_onWay) rfl ?_
      refine m2_iload_n hB dX11_crowd_92 rfl ?_
      have hi5 := hi4
      refine m2_iald hB dX11_crowd_93 sh_kW_onWay hi5 ?_
      refine m2_i2l hB dX11_crowd_94 ?_
      obtain ⟨Q8, hM9, k⟩ := k
      refine m2_invv hB (as := [.long ((μ.1 kW_onWay (v1).toNatClampNeg)).toInt64]) dX11_crowd_95 mv_X11_269 rfl sh_kC rfl (Nat.le_of_ble_eq_true rfl) rfl hM9 (fun μ7 hq10 => ?_)
      replace k := k μ7 hq10
      refine m2_aload_n hB dX11_crowd_98 rfl ?_
      refine m2_iload_n hB dX11_crowd_99 rfl ?_
      refine m2_aload_n hB dX11_crowd_100 rfl ?_
      refine m2_getR hB dX11_crowd_101 fl_X11_39 sh_kC (c1 := kD) rfl ?_
      refine m2_getR hB dX11_crowd_104 fl_X11_158 sh_kD (c1 := kD_left) rfl ?_
      refine m2_iload_n hB dX11_crowd_107 rfl ?_
      have hi11 := hi4
      refine m2_iald hB dX11_crowd_108 sh_kD_left hi11 ?_
      refine m2_aload_n hB dX11_crowd_109 rfl ?_
      refine m2_getR hB dX11_crowd_110 fl_X11_89 sh_kC (c1 := kW) rfl ?_
      refine m2_getR hB dX11_crowd_113 fl_X11_276 sh_kW (c1 := kW_onWay) rfl ?_
      refine m2_iload_n hB dX11_crowd_116 rfl ?_
      have hi12 := hi4
      refine m2_iald hB dX11_crowd_117 sh_kW_onWay hi12 ?_
      refine m2_iload_n hB dX11_crowd_118 rfl ?_
      refine m2_isub hB dX11_crowd_119 ?_
      refine m2_mmin hB dX11_crowd_120 ms_X11_282 (Nat.le_of_ble_eq_true rfl) ?_
      refine m2_iadd hB dX11_crowd_123 ?_
      refine m2_i2l hB dX11_crowd_124 ?_
      obtain ⟨Q15, hM16, k⟩ := k
      refine m2_invv hB (as := [.long (((μ.1 kW_strangersOnWay (v1).toNatClampNeg) + (m2_min (μ7.1 kD_left (v1).toNatClampNeg) ((μ7.1 kW_onWay (v1).toNatClampNeg) - (μ.1 kW_strangersOnWay (v1).toNatClampNeg))))).toInt64]) dX11_crowd_125 mv_X11_269 rfl sh_kC rfl (Nat.le_of_ble_eq_true rfl) rfl hM16 (fun μ14 hq17 => ?_)
      replace k := k μ14 hq17
      refine m2_iload_n hB dX11_crowd_128 rfl ?_
      exact m2_iret h dX11_crowd_129 k
    · replace k := k.2 q3
      refine m2_bipush hB dX11_crowd_66 (v := (-2)) (by decide) ?_
      exact m2_iret h dX11_crowd_68 k
  · replace k := k.2 q2
    refine m2_aload_n hB dX11_crowd_23 rfl ?_
    refine m2_getR hB dX11_crowd_24 fl_X11_89 sh_kC (c1 := kW) rfl ?_
    refine m2_getR hB dX11_crowd_27 fl_X11_276 sh_kW (c1 := kW_onWay) rfl ?_
    refine m2_iload_n hB dX11_crowd_30 rfl ?_
    obtain ⟨hi18, k⟩ := k
    refine m2_iald hB dX11_crowd_31 sh_kW_onWay hi18 ?_
    refine m2_iload_n hB dX11_crowd_32 rfl ?_
    refine m2_iconst hB dX11_crowd_33 (v := (-1)) (by decide) ?_
    refine m2_icmp_ne hB dX11_crowd_34 (tgt := 41) (by decide) (fun q20 : ¬ v1 = (-1) => ?_) (fun q20 : v1 = (-1) => ?_)
    · replace k := k.1 q20
      refine m2_aload_n hB dX11_crowd_41 rfl ?_
      refine m2_getR hB dX11_crowd_42 fl_X11_89 sh_kC (c1 := kW) rfl ?_
      refine m2_getR hB dX11_crowd_45 fl_X11_276 sh_kW (c1 := kW_onWay) rfl ?_
      refine m2_iload_n hB dX11_crowd_48 rfl ?_
      obtain ⟨hi21, k⟩ := k
      refine m2_iald hB dX11_crowd_49 sh_kW_onWay hi21 ?_
      have G23 : κ 55 [.ref kC, .int (if (μ.1 kW_onWay (v2).toNatClampNeg) ≤ (μ.1 kW_onWay (v1).toNatClampNeg) then v1 else v2 : Int32), .int v2] [] μ := by
        refine m2_iinc hB (ls' := [.ref kC, .int (if (μ.1 kW_onWay (v2).toNatClampNeg) ≤ (μ.1 kW_onWay (v1).toNatClampNeg) then v1 else v2 : Int32), .int (v2 + 1)]) (v := (v2 + 1)) dX11_crowd_55 rfl (by decide) rfl rfl ?_
        refine m2_goto hB dX11_crowd_58 (tgt := 12) (by decide) ?_
        exact k
      refine m2_icmp_le hB dX11_crowd_50 (tgt := 55) (by decide) (fun q22 : (μ.1 kW_onWay (v2).toNatClampNeg) ≤ (μ.1 kW_onWay (v1).toNatClampNeg) => ?_) (fun q22 : ¬ (μ.1 kW_onWay (v2).toNatClampNeg) ≤ (μ.1 kW_onWay (v1).toNatClampNeg) => ?_)
      · rw [if_pos q22] at G23
        exact G23
      · rw [if_neg q22] at G23
        refine m2_iload_n hB dX11_crowd_53 rfl ?_
        refine m2_istore_n hB (ls' := [.ref kC, .int v2, .int v2]) dX11_crowd_54 rfl (by decide) rfl ?_
        exact G23
    · replace k := k.2 q20
      refine m2_iconst hB dX11_crowd_37 (v := 0) (by decide) ?_
      refine m2_goto hB dX11_crowd_38 (tgt := 50) (by decide) ?_
      have G25 : κ 55 [.ref kC, .int (if (μ.1 kW_onWay (v2).toNatClampNeg) ≤ 0 then v1 else v2 : Int32), .int v2] [] μ := by
        refine m2_iinc hB (ls' := [.ref kC, .int (if (μ.1 kW_onWay (v2).toNatClampNeg) ≤ 0 then v1 else v2 : Int32), .int (v2 + 1)]) (v := (v2 + 1)) dX11_crowd_55 rfl (by decide) rfl rfl ?_
        refine m2_goto hB dX11_crowd_58 (tgt := 12) (by decide) ?_
        exact k
      refine m2_icmp_le hB dX11_crowd_50 (tgt := 55) (by decide) (fun q24 : (μ.1 kW_onWay (v2).toNatClampNeg) ≤ 0 => ?_) (fun q24 : ¬ (μ.1 kW_onWay (v2).toNatClampNeg) ≤ 0 => ?_)
      · rw [if_pos q24] at G25
        exact G25
      · rw [if_neg q24] at G25
        refine m2_iload_n hB dX11_crowd_53 rfl ?_
        refine m2_istore_n hB (ls' := [.ref kC, .int v2, .int v2]) dX11_crowd_54 rfl (by decide) rfl ?_
        exact G25
theorem dX11_many_0 : decode cX11_many 0 = .ok (.iload_n 1, 1) := by decide +kernel
theorem dX11_many_1 : decode cX11_many 1 = .ok (.iload_n 2, 1) := by decide +kernel
theorem dX11_many_2 : decode cX11_many 2 = .ok (.invokestatic 287, 3) := by decide +kernel
theorem dX11_many_5 : decode cX11_many 5 = .ok (.ifCond .ne 5, 3) := by decide +kernel
theorem dX11_many_8 : decode cX11_many 8 = .ok (.iconst (-1), 1) := by decide +kernel
theorem dX11_many_9 : decode cX11_many 9 = .ok (.ireturn, 1) := by decide +kernel
theorem dX11_many_10 : decode cX11_many 10 = .ok (.aload_n 0, 1) := by decide +kernel
theorem dX11_many_11 : decode cX11_many 11 = .ok (.getfield 80, 3) := by decide +kernel
theorem dX11_many_14 : decode cX11_many 14 = .ok (.aload_n 0, 1) := by decide +kernel
theorem dX11_many_15 : decode cX11_many 15 = .ok (.getfield 39, 3) := by decide +kernel
theorem dX11_many_18 : decode cX11_many 18 = .ok (.invokevirtual 291, 3) := by decide +kernel
theorem dX11_many_21 : decode cX11_many 21 = .ok (.aload_n 0, 1) := by decide +kernel
theorem dX11_many_22 : decode cX11_many 22 = .ok (.getfield 80, 3) := by decide +kernel
theorem dX11_many_25 : decode cX11_many 25 = .ok (.iload_n 1, 1) := by decide +kernel
theorem dX11_many_26 : decode cX11_many 26 = .ok (.iload_n 2, 1) := by decide +kernel
theorem dX11_many_27 : decode cX11_many 27 = .ok (.invokevirtual 294, 3) := by decide +kernel
theorem dX11_many_30 : decode cX11_many 30 = .ok (.istore_n 3, 1) := by decide +kernel
theorem dX11_many_31 : decode cX11_many 31 = .ok (.aload_n 0, 1) := by decide +kernel
theorem dX11_many_32 : decode cX11_many 32 = .ok (.iconst 0, 1) := by decide +kernel
theorem dX11_many_33 : decode cX11_many 33 = .ok (.putfield 240, 3) := by decide +kernel
theorem dX11_many_36 : decode cX11_many 36 = .ok (.aload_n 0, 1) := by decide +kernel
theorem dX11_many_37 : decode cX11_many 37 = .ok (.aload_n 0, 1) := by decide +kernel
theorem dX11_many_38 : decode cX11_many 38 = .ok (.getfield 80, 3) := by decide +kernel
theorem dX11_many_41 : decode cX11_many 41 = .ok (.invokevirtual 297, 3) := by decide +kernel
theorem dX11_many_44 : decode cX11_many 44 = .ok (.i2l, 1) := by decide +kernel
theorem dX11_many_45 : decode cX11_many 45 = .ok (.invokevirtual 269, 3) := by decide +kernel
theorem dX11_many_48 : decode cX11_many 48 = .ok (.iload_n 3, 1) := by decide +kernel
theorem dX11_many_49 : decode cX11_many 49 = .ok (.ireturn, 1) := by decide +kernel
set_option maxRecDepth 100000 in
set_option maxHeartbeats 4000000 in
theorem B_X11_many_0 {κ : Nat → List Value → List Value → m2M → Prop} {D : Nat} {Q : Option Value → m2M → Prop} (h : m2_RL κ cX11_many RX11 4 (D + 1) (some .int) Q) (hD : 1 ≤ D) {x1 : Int32} {x2 : Int32} {μ : m2M} (k : ((fX11_areUnlikeRooms x1 x2) = 1 → ∃ Q7 : Option Value → m2M → Prop, m2_MT D yX1_load cX1_load 3 none [.ref kF, .ref kD] μ Q7 ∧ ∀ (μ6 : m2M), Q7 none μ6 → (∃ Q12 : Option Value → m2M → Prop, m2_MT D yX1_greatest cX1_greatest 6 (some .int) [.ref kF, .int x1, .int x2] μ6 Q12 ∧ ∀ (y10 : Int32) (μ11 : m2M), Q12 (some (.int y10)) μ11 → (∃ Q17 : Option Value → m2M → Prop, m2_MT D yX1_doorsOutOfReached cX1_doorsOutOfReached 5 (some .int) [.ref kF] (m2_si μ11 kC 3 0) Q17 ∧ ∀ (y15 : Int32) (μ16 : m2M), Q17 (some (.int y15)) μ16 → (∃ Q22 : Option Value → m2M → Prop, m2_MT D yX11_tell cX11_tell 3 none [.ref kC, .long (y15).toInt64] μ16 Q22 ∧ ∀ (μ21 : m2M), Q22 none μ21 → (Q (some (.int y10)) μ21))))) ∧ (¬ (fX11_areUnlikeRooms x1 x2) = 1 → Q (some (.int (-1))) μ)) : κ 0 [.ref kC, .int x1, .int x2, .null] [] μ := by
  have hB := h.b
  refine m2_iload_n hB dX11_many_0 rfl ?_
  refine m2_iload_n hB dX11_many_1 rfl ?_
  refine m2_invSz hB (as := [.int x1, .int x2]) dX11_many_2 ms_X11_287 rfl (Nat.le_of_ble_eq_true rfl) rfl (P_X11_areUnlikeRooms (by omega) (x1) (x2) _ ) (fun y1 μ2 hq3 => ?_)
  obtain ⟨⟨⟩, hq3⟩ := hq3
  subst μ2
  show κ 5 [.ref kC, .int x1, .int x2, .null] [.int (if (fX11_areUnlikeRooms x1 x2) = 1 then 1 else 0 : Int32)] μ
  by_cases q4 : (fX11_areUnlikeRooms x1 x2) = 1
  · rw [if_pos q4]
    replace k := k.1 q4
    refine m2_if_ne hB dX11_many_5 (tgt := 10) (by decide) (fun _ => ?_) (fun q => absurd q (by decide))
    refine m2_aload_n hB dX11_many_10 rfl ?_
    refine m2_getR hB dX11_many_11 fl_X11_80 sh_kC (c1 := kF) rfl ?_
    refine m2_aload_n hB dX11_many_14 rfl ?_
    refine m2_getR hB dX11_many_15 fl_X11_39 sh_kC (c1 := kD) rfl ?_
    obtain ⟨Q7, hM8, k⟩ := k
    refine m2_invv hB (as := [.ref kD]) dX11_many_18 mv_X11_291 rfl sh_kF rfl (Nat.le_of_ble_eq_true rfl) rfl hM8 (fun μ6 hq9 => ?_)
    replace k := k μ6 hq9
    refine m2_aload_n hB dX11_many_21 rfl ?_
    refine m2_getR hB dX11_many_22 fl_X11_80 sh_kC (c1 := kF) rfl ?_
    refine m2_iload_n hB dX11_many_25 rfl ?_
    refine m2_iload_n hB dX11_many_26 rfl ?_
    obtain ⟨Q12, hM13, k⟩ := k
    refine m2_invi hB (as := [.int x1, .int x2]) dX11_many_27 mv_X11_294 rfl sh_kF rfl (Nat.le_of_ble_eq_true rfl) rfl hM13 (fun y10 μ11 hq14 => ?_)
    replace k := k y10 μ11 hq14
    refine m2_istore_n hB (ls' := [.ref kC, .int x1, .int x2, .int y10]) dX11_many_30 rfl (by decide) rfl ?_
    refine m2_aload_n hB dX11_many_31 rfl ?_
    refine m2_iconst hB dX11_many_32 (v := 0) (by decide) ?_
    refine m2_putI hB dX11_many_33 fl_X11_240 sh_kC rfl ?_
    refine m2_aload_n hB dX11_many_36 rfl ?_
    refine m2_aload_n hB dX11_many_37 rfl ?_
    refine m2_getR hB dX11_many_38 fl_X11_80 sh_kC (c1 := kF) rfl ?_
    obtain ⟨Q17, hM18, k⟩ := k
    refine m2_invi hB (as := []) dX11_many_41 mv_X11_297 rfl sh_kF rfl (Nat.le_of_ble_eq_true rfl) rfl hM18 (fun y15 μ16 hq19 => ?_)
    replace k := k y15 μ16 hq19
    refine m2_i2l hB dX11_many_44 ?_
    obtain ⟨Q22, hM23, k⟩ := k
    refine m2_invv hB (as := [.long (y15).toInt64]) dX11_many_45 mv_X11_269 rfl sh_kC rfl (Nat.le_of_ble_eq_true rfl) rfl hM23 (fun μ21 hq24 => ?_)
    replace k := k μ21 hq24
    refine m2_iload_n hB dX11_many_48 rfl ?_
    exact m2_iret h dX11_many_49 k
  · rw [if_neg q4]
    replace k := k.2 q4
    refine m2_if_ne hB dX11_many_5 (tgt := 10) (by decide) (fun q => absurd q (by decide)) (fun _ => ?_)
    refine m2_iconst hB dX11_many_8 (v := (-1)) (by decide) ?_
    exact m2_iret h dX11_many_9 k
theorem dX11_bars_0 : decode cX11_bars 0 = .ok (.iload_n 1, 1) := by decide +kernel
theorem dX11_bars_1 : decode cX11_bars 1 = .ok (.iload_n 2, 1) := by decide +kernel
theorem dX11_bars_2 : decode cX11_bars 2 = .ok (.invokestatic 287, 3) := by decide +kernel
theorem dX11_bars_5 : decode cX11_bars 5 = .ok (.ifCond .ne 5, 3) := by decide +kernel
theorem dX11_bars_8 : decode cX11_bars 8 = .ok (.iconst (-1), 1) := by decide +kernel
theorem dX11_bars_9 : decode cX11_bars 9 = .ok (.ireturn, 1) := by decide +kernel
theorem dX11_bars_10 : decode cX11_bars 10 = .ok (.aload_n 0, 1) := by decide +kernel
theorem dX11_bars_11 : decode cX11_bars 11 = .ok (.getfield 80, 3) := by decide +kernel
theorem dX11_bars_14 : decode cX11_bars 14 = .ok (.aload_n 0, 1) := by decide +kernel
theorem dX11_bars_15 : decode cX11_bars 15 = .ok (.getfield 39, 3) := by decide +kernel
theorem dX11_bars_18 : decode cX11_bars 18 = .ok (.invokevirtual 291, 3) := by decide +kernel
theorem dX11_bars_21 : decode cX11_bars 21 = .ok (.iconst 0, 1) := by decide +kernel
theorem dX11_bars_22 : decode cX11_bars 22 = .ok (.istore_n 3, 1) := by decide +kernel
theorem dX11_bars_23 : decode cX11_bars 23 = .ok (.iload_n 3, 1) := by decide +kernel
theorem dX11_bars_24 : decode cX11_bars 24 = .ok (.aload_n 0, 1) := by decide +kernel
theorem dX11_bars_25 : decode cX11_bars 25 = .ok (.getfield 39, 3) := by decide +kernel
theorem dX11_bars_28 : decode cX11_bars 28 = .ok (.getfield 191, 3) := by decide +kernel
theorem dX11_bars_31 : decode cX11_bars 31 = .ok (.if_icmp .ge 31, 3) := by decide +kernel
theorem dX11_bars_34 : decode cX11_bars 34 = .ok (.aload_n 0, 1) := by decide +kernel
theorem dX11_bars_35 : decode cX11_bars 35 = .ok (.getfield 80, 3) := by decide +kernel
theorem dX11_bars_38 : decode cX11_bars 38 = .ok (.getfield 300, 3) := by decide +kernel
theorem dX11_bars_41 : decode cX11_bars 41 = .ok (.iload_n 3, 1) := by decide +kernel
theorem dX11_bars_42 : decode cX11_bars 42 = .ok (.aload_n 0, 1) := by decide +kernel
theorem dX11_bars_43 : decode cX11_bars 43 = .ok (.getfield 39, 3) := by decide +kernel
theorem dX11_bars_46 : decode cX11_bars 46 = .ok (.getfield 158, 3) := by decide +kernel
theorem dX11_bars_49 : decode cX11_bars 49 = .ok (.iload_n 3, 1) := by decide +kernel
theorem dX11_bars_50 : decode cX11_bars 50 = .ok (.iaload, 1) := by decide +kernel
theorem dX11_bars_51 : decode cX11_bars 51 = .ok (.iconst 1, 1) := by decide +kernel
theorem dX11_bars_52 : decode cX11_bars 52 = .ok (.invokestatic 282, 3) := by decide +kernel
theorem dX11_bars_55 : decode cX11_bars 55 = .ok (.iastore, 1) := by decide +kernel
theorem dX11_bars_56 : decode cX11_bars 56 = .ok (.iinc 3 1, 3) := by decide +kernel
theorem dX11_bars_59 : decode cX11_bars 59 = .ok (.goto (-36), 3) := by decide +kernel
theorem dX11_bars_62 : decode cX11_bars 62 = .ok (.aload_n 0, 1) := by decide +kernel
theorem dX11_bars_63 : decode cX11_bars 63 = .ok (.getfield 80, 3) := by decide +kernel
theorem dX11_bars_66 : decode cX11_bars 66 = .ok (.iload_n 1, 1) := by decide +kernel
theorem dX11_bars_67 : decode cX11_bars 67 = .ok (.iload_n 2, 1) := by decide +kernel
theorem dX11_bars_68 : decode cX11_bars 68 = .ok (.invokevirtual 294, 3) := by decide +kernel
theorem dX11_bars_71 : decode cX11_bars 71 = .ok (.ireturn, 1) := by decide +kernel
set_option maxRecDepth 100000 in
set_option maxHeartbeats 4000000 in
theorem B_X11_bars_0 {κ : Nat → List Value → List Value → m2M → Prop} {D : Nat} {Q : Option Value → m2M → Prop} (h : m2_RL κ cX11_bars RX11 4 (D + 1) (some .int) Q) (hD : 1 ≤ D) {x1 : Int32} {x2 : Int32} {μ : m2M} (k : ((fX11_areUnlikeRooms x1 x2) = 1 → ∃ Q7 : Option Value → m2M → Prop, m2_MT D yX1_load cX1_load 3 none [.ref kF, .ref kD] μ Q7 ∧ ∀ (μ6 : m2M), Q7 none μ6 → (κ 23 [.ref kC, .int x1, .int x2, .int 0] [] μ6)) ∧ (¬ (fX11_areUnlikeRooms x1 x2) = 1 → Q (some (.int (-1))) μ)) : κ 0 [.ref kC, .int x1, .int x2, .null] [] μ := by
  have hB := h.b
  refine m2_iload_n hB dX11_bars_0 rfl ?_
  refine m2_iload_n hB dX11_bars_1 rfl ?_
  refine m2_invSz hB (as := [.int x1, .int x2]) dX11_bars_2 ms_X11_287 rfl (Nat.le_of_ble_eq_true rfl) rfl (P_X11_areUnlikeRooms (by omega) (x1) (x2) _ ) (fun y1 μ2 hq3 => ?_)
  obtain ⟨⟨⟩, hq3⟩ := hq3
  subst μ2
  show κ 5 [.ref kC, .int x1, .int x2, .null] [.int (if (fX11_areUnlikeRooms x1 x2) = 1 then 1 else 0 : Int32)] μ
  by_cases q4 : (fX11_areUnlikeRooms x1 x2) = 1
  · rw [if_pos q4]
    replace k := k.1 q4
    refine m2_if_ne hB dX11_bars_5 (tgt := 10) (by decide) (fun _ => ?_) (fun q => absurd q (by decide))
    refine m2_aload_n hB dX11_bars_10 rfl ?_
    refine m2_getR hB dX11_bars_11 fl_X11_80 sh_kC (c1 := kF) rfl ?_
    refine m2_aload_n hB dX11_bars_14 rfl ?_
    refine m2_getR hB dX11_bars_15 fl_X11_39 sh_kC (c1 := kD) rfl ?_
    obtain ⟨Q7, hM8, k⟩ := k
    refine m2_invv hB (as := [.ref kD]) dX11_bars_18 mv_X11_291 rfl sh_kF rfl (Nat.le_of_ble_eq_true rfl) rfl hM8 (fun μ6 hq9 => ?_)
    replace k := k μ6 hq9
    refine m2_iconst hB dX11_bars_21 (v := 0) (by decide) ?_
    refine m2_istore_n hB (ls' := [.ref kC, .int x1, .int x2, .int 0]) dX11_bars_22 rfl (by decide) rfl ?_
    exact k
  · rw [if_neg q4]
    replace k := k.2 q4
    refine m2_if_ne hB dX11_bars_5 (tgt := 10) (by decide) (fun q => absurd q (by decide)) (fun _ => ?_)
    refine m2_iconst hB dX11_bars_8 (v := (-1)) (by decide) ?_
    exact m2_iret h dX11_bars_9 k
set_option maxRecDepth 100000 in
set_option maxHeartbeats 4000000 in
theorem B_X11_bars_23 {κ : Nat → List Value → List Value → m2M → Prop} {D : Nat} {Q : Option Value → m2M → Prop} (h : m2_RL κ cX11_bars RX11 4 (D + 1) (some .int) Q) (hD : 0 ≤ D) {v1 : Int32} {v2 : Int32} {v3 : Int32} {μ : m2M} (k : ((μ.1 kD 6) ≤ v3 → ∃ Q5 : Option Value → m2M → Prop, m2_MT D yX1_greatest cX1_greatest 6 (some .int) [.ref kF, .int v1, .int v2] μ Q5 ∧ ∀ (y3 : Int32) (μ4 : m2M), Q5 (some (.int y3)) μ4 → (Q (some (.int y3)) μ4)) ∧ (¬ (μ.1 kD 6) ≤ v3 → (vp_in v3 20) ∧ ((vp_in v3 21) ∧ (κ 23 [.ref kC, .int v1, .int v2, .int (v3 + 1)] [] (m2_si μ kF_lets (v3).toNatClampNeg (m2_min (μ.1 kD_left (v3).toNatClampNeg) 1)))))) : κ 23 [.ref kC, .int v1, .int v2, .int v3] [] μ := by
  have hB := h.b
  refine m2_iload_n hB dX11_bars_23 rfl ?_
  refine m2_aload_n hB dX11_bars_24 rfl ?_
  refine m2_getR hB dX11_bars_25 fl_X11_39 sh_kC (c1 := kD) rfl ?_
  refine m2_getI hB dX11_bars_28 fl_X11_191 sh_kD rfl ?_
  refine m2_icmp_ge hB dX11_bars_31 (tgt := 62) (by decide) (fun q2 : (μ.1 kD 6) ≤ v3 => ?_) (fun q2 : ¬ (μ.1 kD 6) ≤ v3 => ?_)
  · replace k := k.1 q2
    refine m2_aload_n hB dX11_bars_62 rfl ?_
    refine m2_getR hB dX11_bars_63 fl_X11_80 sh_kC (c1 := kF) rfl ?_
    refine m2_iload_n hB dX11_bars_66 rfl ?_
    refine m2_iload_n hB dX11_bars_67 rfl ?_
    obtain ⟨Q5, hM6, k⟩ := k
    refine m2_invi hB (as := [.int v1, .int v2]) dX11_bars_68 mv_X11_294 rfl sh_kF rfl (Nat.le_of_ble_eq_true rfl) rfl hM6 (fun y3 μ4 hq7 => ?_)
    replace k := k y3 μ4 hq7
    exact m2_iret h dX11_bars_71 k
  · replace k := k.2 q2
    refine m2_aload_n hB dX11_bars_34 rfl ?_
    refine m2_getR hB dX11_bars_35 fl_X11_80 sh_kC (c1 := kF) rfl ?_
    refine m2_getR hB dX11_bars_38 fl_X11_300 sh_kF (c1 := kF_lets) rfl ?_
    refine m2_iload_n hB dX11_bars_41 rfl ?_
    refine m2_aload_n hB dX11_bars_42 rfl ?_
    refine m2_getR hB dX11_bars_43 fl_X11_39 sh_kC (c1 := kD) rfl ?_
    refine m2_getR hB dX11_bars_46 fl_X11_158 sh_kD (c1 := kD_left) rfl ?_
    refine m2_iload_n hB dX11_bars_49 rfl ?_
    obtain ⟨hi8, k⟩ := k
    refine m2_iald hB dX11_bars_50 sh_kD_left hi8 ?_
    refine m2_iconst hB dX11_bars_51 (v := 1) (by decide) ?_
    refine m2_mmin hB dX11_bars_52 ms_X11_282 (Nat.le_of_ble_eq_true rfl) ?_
    obtain ⟨hi9, k⟩ := k
    refine m2_iast hB dX11_bars_55 sh_kF_lets hi9 ?_
    refine m2_iinc hB (ls' := [.ref kC, .int v1, .int v2, .int (v3 + 1)]) (v := (v3 + 1)) dX11_bars_56 rfl (by decide) rfl rfl ?_
    refine m2_goto hB dX11_bars_59 (tgt := 23) (by decide) ?_
    exact k
theorem dX11_counts_0 : decode cX11_counts 0 = .ok (.iload_n 1, 1) := by decide +kernel
theorem dX11_counts_1 : decode cX11_counts 1 = .ok (.iload_n 2, 1) := by decide +kernel
theorem dX11_counts_2 : decode cX11_counts 2 = .ok (.invokestatic 287, 3) := by decide +kernel
theorem dX11_counts_5 : decode cX11_counts 5 = .ok (.ifCond .eq 14, 3) := by decide +kernel
theorem dX11_counts_8 : decode cX11_counts 8 = .ok (.aload_n 0, 1) := by decide +kernel
theorem dX11_counts_9 : decode cX11_counts 9 = .ok (.getfield 39, 3) := by decide +kernel
theorem dX11_counts_12 : decode cX11_counts 12 = .ok (.iload_n 3, 1) := by decide +kernel
theorem dX11_counts_13 : decode cX11_counts 13 = .ok (.invokevirtual 130, 3) := by decide +kernel
theorem dX11_counts_16 : decode cX11_counts 16 = .ok (.ifCond .ne 5, 3) := by decide +kernel
theorem dX11_counts_19 : decode cX11_counts 19 = .ok (.iconst (-1), 1) := by decide +kernel
theorem dX11_counts_20 : decode cX11_counts 20 = .ok (.ireturn, 1) := by decide +kernel
theorem dX11_counts_21 : decode cX11_counts 21 = .ok (.aload_n 0, 1) := by decide +kernel
theorem dX11_counts_22 : decode cX11_counts 22 = .ok (.getfield 80, 3) := by decide +kernel
theorem dX11_counts_25 : decode cX11_counts 25 = .ok (.aload_n 0, 1) := by decide +kernel
theorem dX11_counts_26 : decode cX11_counts 26 = .ok (.getfield 39, 3) := by decide +kernel
theorem dX11_counts_29 : decode cX11_counts 29 = .ok (.invokevirtual 291, 3) := by decide +kernel
theorem dX11_counts_32 : decode cX11_counts 32 = .ok (.aload_n 0, 1) := by decide +kernel
theorem dX11_counts_33 : decode cX11_counts 33 = .ok (.getfield 80, 3) := by decide +kernel
theorem dX11_counts_36 : decode cX11_counts 36 = .ok (.iload_n 1, 1) := by decide +kernel
theorem dX11_counts_37 : decode cX11_counts 37 = .ok (.iload_n 2, 1) := by decide +kernel
theorem dX11_counts_38 : decode cX11_counts 38 = .ok (.invokevirtual 294, 3) := by decide +kernel
theorem dX11_counts_41 : decode cX11_counts 41 = .ok (.istore 4, 2) := by decide +kernel
theorem dX11_counts_43 : decode cX11_counts 43 = .ok (.aload_n 0, 1) := by decide +kernel
theorem dX11_counts_44 : decode cX11_counts 44 = .ok (.getfield 80, 3) := by decide +kernel
theorem dX11_counts_47 : decode cX11_counts 47 = .ok (.getfield 300, 3) := by decide +kernel
theorem dX11_counts_50 : decode cX11_counts 50 = .ok (.iload_n 3, 1) := by decide +kernel
theorem dX11_counts_51 : decode cX11_counts 51 = .ok (.iconst 0, 1) := by decide +kernel
theorem dX11_counts_52 : decode cX11_counts 52 = .ok (.iastore, 1) := by decide +kernel
theorem dX11_counts_53 : decode cX11_counts 53 = .ok (.aload_n 0, 1) := by decide +kernel
theorem dX11_counts_54 : decode cX11_counts 54 = .ok (.getfield 80, 3) := by decide +kernel
theorem dX11_counts_57 : decode cX11_counts 57 = .ok (.iload_n 1, 1) := by decide +kernel
theorem dX11_counts_58 : decode cX11_counts 58 = .ok (.iload_n 2, 1) := by decide +kernel
theorem dX11_counts_59 : decode cX11_counts 59 = .ok (.invokevirtual 294, 3) := by decide +kernel
theorem dX11_counts_62 : decode cX11_counts 62 = .ok (.istore 5, 2) := by decide +kernel
theorem dX11_counts_64 : decode cX11_counts 64 = .ok (.aload_n 0, 1) := by decide +kernel
theorem dX11_counts_65 : decode cX11_counts 65 = .ok (.getfield 80, 3) := by decide +kernel
theorem dX11_counts_68 : decode cX11_counts 68 = .ok (.getfield 300, 3) := by decide +kernel
theorem dX11_counts_71 : decode cX11_counts 71 = .ok (.iload_n 3, 1) := by decide +kernel
theorem dX11_counts_72 : decode cX11_counts 72 = .ok (.aload_n 0, 1) := by decide +kernel
theorem dX11_counts_73 : decode cX11_counts 73 = .ok (.getfield 39, 3) := by decide +kernel
theorem dX11_counts_76 : decode cX11_counts 76 = .ok (.getfield 158, 3) := by decide +kernel
theorem dX11_counts_79 : decode cX11_counts 79 = .ok (.iload_n 3, 1) := by decide +kernel
theorem dX11_counts_80 : decode cX11_counts 80 = .ok (.iaload, 1) := by decide +kernel
theorem dX11_counts_81 : decode cX11_counts 81 = .ok (.iconst 1, 1) := by decide +kernel
theorem dX11_counts_82 : decode cX11_counts 82 = .ok (.iadd, 1) := by decide +kernel
theorem dX11_counts_83 : decode cX11_counts 83 = .ok (.iastore, 1) := by decide +kernel
theorem dX11_counts_84 : decode cX11_counts 84 = .ok (.aload_n 0, 1) := by decide +kernel
theorem dX11_counts_85 : decode cX11_counts 85 = .ok (.getfield 80, 3) := by decide +kernel
theorem dX11_counts_88 : decode cX11_counts 88 = .ok (.iload_n 1, 1) := by decide +kernel
theorem dX11_counts_89 : decode cX11_counts 89 = .ok (.iload_n 2, 1) := by decide +kernel
theorem dX11_counts_90 : decode cX11_counts 90 = .ok (.invokevirtual 294, 3) := by decide +kernel
theorem dX11_counts_93 : decode cX11_counts 93 = .ok (.istore 6, 2) := by decide +kernel
theorem dX11_counts_95 : decode cX11_counts 95 = .ok (.aload_n 0, 1) := by decide +kernel
theorem dX11_counts_96 : decode cX11_counts 96 = .ok (.iconst 0, 1) := by decide +kernel
theorem dX11_counts_97 : decode cX11_counts 97 = .ok (.putfield 240, 3) := by decide +kernel
theorem dX11_counts_100 : decode cX11_counts 100 = .ok (.aload_n 0, 1) := by decide +kernel
theorem dX11_counts_101 : decode cX11_counts 101 = .ok (.iload 6, 2) := by decide +kernel
theorem dX11_counts_103 : decode cX11_counts 103 = .ok (.iload 4, 2) := by decide +kernel
theorem dX11_counts_105 : decode cX11_counts 105 = .ok (.isub, 1) := by decide +kernel
theorem dX11_counts_106 : decode cX11_counts 106 = .ok (.i2l, 1) := by decide +kernel
theorem dX11_counts_107 : decode cX11_counts 107 = .ok (.invokevirtual 269, 3) := by decide +kernel
theorem dX11_counts_110 : decode cX11_counts 110 = .ok (.iload 4, 2) := by decide +kernel
theorem dX11_counts_112 : decode cX11_counts 112 = .ok (.iload 5, 2) := by decide +kernel
theorem dX11_counts_114 : decode cX11_counts 114 = .ok (.isub, 1) := by decide +kernel
theorem dX11_counts_115 : decode cX11_counts 115 = .ok (.ireturn, 1) := by decide +kernel
set_option maxRecDepth 100000 in
set_option maxHeartbeats 4000000 in
theorem B_X11_counts_0 {κ : Nat → List Value → List Value → m2M → Prop} {D : Nat} {Q : Option Value → m2M → Prop} (h : m2_RL κ cX11_counts RX11 7 (D + 1) (some .int) Q) (hD : 1 ≤ D) {x1 : Int32} {x2 : Int32} {x3 : Int32} {μ : m2M} (k : ((fX11_areUnlikeRooms x1 x2) = 1 → ((fX0_has x3 μ) = 1 → ∃ Q11 : Option Value → m2M → Prop, m2_MT D yX1_load cX1_load 3 none [.ref kF, .ref kD] μ Q11 ∧ ∀ (μ10 : m2M), Q11 none μ10 → (∃ Q16 : Option Value → m2M → Prop, m2_MT D yX1_greatest cX1_greatest 6 (some .int) [.ref kF, .int x1, .int x2] μ10 Q16 ∧ ∀ (y14 : Int32) (μ15 : m2M), Q16 (some (.int y14)) μ15 → ((vp_in x3 21) ∧ (∃ Q22 : Option Value → m2M → Prop, m2_MT D yX1_greatest cX1_greatest 6 (some .int) [.ref kF, .int x1, .int x2] (m2_si μ15 kF_lets (x3).toNatClampNeg 0) Q22 ∧ ∀ (y20 : Int32) (μ21 : m2M), Q22 (some (.int y20)) μ21 → ((vp_in x3 20) ∧ (∃ Q29 : Option Value → m2M → Prop, m2_MT D yX1_greatest cX1_greatest 6 (some .int) [.ref kF, .int x1, .int x2] (m2_si μ21 kF_lets (x3).toNatClampNeg ((μ21.1 kD_left (x3).toNatClampNeg) + 1)) Q29 ∧ ∀ (y27 : Int32) (μ28 : m2M), Q29 (some (.int y27)) μ28 → (∃ Q34 : Option Value → m2M → Prop, m2_MT D yX11_tell cX11_tell 3 none [.ref kC, .long ((y27 - y14)).toInt64] (m2_si μ28 kC 3 0) Q34 ∧ ∀ (μ33 : m2M), Q34 none μ33 → (Q (some (.int (y14 - y20))) μ33)))))))) ∧ (¬ (fX0_has x3 μ) = 1 → Q (some (.int (-1))) μ)) ∧ (¬ (fX11_areUnlikeRooms x1 x2) = 1 → Q (some (.int (-1))) μ)) : κ 0 [.ref kC, .int x1, .int x2, .int x3, .null, .null, .null] [] μ := by
  have hB := h.b
  refine m2_iload_n hB dX11_counts_0 rfl ?_
  refine m2_iload_n hB dX11_counts_1 rfl ?_
  refine m2_invSz hB (as := [.int x1, .int x2]) dX11_counts_2 ms_X11_287 rfl (Nat.le_of_ble_eq_true rfl) rfl (P_X11_areUnlikeRooms (by omega) (x1) (x2) _ ) (fun y1 μ2 hq3 => ?_)
  obtain ⟨⟨⟩, hq3⟩ := hq3
  subst μ2
  show κ 5 [.ref kC, .int x1, .int x2, .int x3, .null, .null, .null] [.int (if (fX11_areUnlikeRooms x1 x2) = 1 then 1 else 0 : Int32)] μ
  by_cases q4 : (fX11_areUnlikeRooms x1 x2) = 1
  · rw [if_pos q4]
    replace k := k.1 q4
    refine m2_if_eq hB dX11_counts_5 (tgt := 19) (by decide) (fun q => absurd q (by decide)) (fun _ => ?_)
    refine m2_aload_n hB dX11_counts_8 rfl ?_
    refine m2_getR hB dX11_counts_9 fl_X11_39 sh_kC (c1 := kD) rfl ?_
    refine m2_iload_n hB dX11_counts_12 rfl ?_
    refine m2_invz hB (as := [.int x3]) dX11_counts_13 mv_X11_130 rfl sh_kD rfl (Nat.le_of_ble_eq_true rfl) rfl (P_X0_has (by omega) (x3) _ ) (fun y5 μ6 hq7 => ?_)
    obtain ⟨⟨⟩, hq7⟩ := hq7
    subst μ6
    show κ 16 [.ref kC, .int x1, .int x2, .int x3, .null, .null, .null] [.int (if (fX0_has x3 μ) = 1 then 1 else 0 : Int32)] μ
    by_cases q8 : (fX0_has x3 μ) = 1
    · rw [if_pos q8]
      replace k := k.1 q8
      refine m2_if_ne hB dX11_counts_16 (tgt := 21) (by decide) (fun _ => ?_) (fun q => absurd q (by decide))
      refine m2_aload_n hB dX11_counts_21 rfl ?_
      refine m2_getR hB dX11_counts_22 fl_X11_80 sh_kC (c1 := kF) rfl ?_
      refine m2_aload_n hB dX11_counts_25 rfl ?_
      refine m2_getR hB dX11_counts_26 fl_X11_39 sh_kC (c1 := kD) rfl ?_
      obtain ⟨Q11, hM12, k⟩ := k
      refine m2_invv hB (as := [.ref kD]) dX11_counts_29 mv_X11_291 rfl sh_kF rfl (Nat.le_of_ble_eq_true rfl) rfl hM12 (fun μ10 hq13 => ?_)
      replace k := k μ10 hq13
      refine m2_aload_n hB dX11_counts_32 rfl ?_
      refine m2_getR hB dX11_counts_33 fl_X11_80 sh_kC (c1 := kF) rfl ?_
      refine m2_iload_n hB dX11_counts_36 rfl ?_
      refine m2_iload_n hB dX11_counts_37 rfl ?_
      obtain ⟨Q16, hM17, k⟩ := k
      refine m2_invi hB (as := [.int x1, .int x2]) dX11_counts_38 mv_X11_294 rfl sh_kF rfl (Nat.le_of_ble_eq_true rfl) rfl hM17 (fun y14 μ15 hq18 => ?_)
      replace k := k y14 μ15 hq18
      refine m2_istore hB (ls' := [.ref kC, .int x1, .int x2, .int x3, .int y14, .null, .null]) dX11_counts_41 (by decide) rfl ?_
      refine m2_aload_n hB dX11_counts_43 rfl ?_
      refine m2_getR hB dX11_counts_44 fl_X11_80 sh_kC (c1 := kF) rfl ?_
      refine m2_getR hB dX11_counts_47 fl_X11_300 sh_kF (c1 := kF_lets) rfl ?_
      refine m2_iload_n hB dX11_counts_50 rfl ?_
      refine m2_iconst hB dX11_counts_51 (v := 0) (by decide) ?_
      obtain ⟨hi19, k⟩ := k
      refine m2_iast hB dX11_counts_52 sh_kF_lets hi19 ?_
      refine m2_aload_n hB dX11_counts_53 rfl ?_
      refine m2_getR hB dX11_counts_54 fl_X11_80 sh_kC (c1 := kF) rfl ?_
      refine m2_iload_n hB dX11_counts_57 rfl ?_
      refine m2_iload_n hB dX11_counts_58 rfl ?_
      obtain ⟨Q22, hM23, k⟩ := k
      refine m2_invi hB (as := [.int x1, .int x2]) dX11_counts_59 mv_X11_294 rfl sh_kF rfl (Nat.le_of_ble_eq_true rfl) rfl hM23 (fun y20 μ21 hq24 => ?_)
      replace k := k y20 μ21 hq24
      refine m2_istore hB (ls' := [.ref kC, .int x1, .int x2, .int x3, .int y14, .int y20, .null]) dX11_counts_62 (by decide) rfl ?_
      refine m2_aload_n hB dX11_counts_64 rfl ?_
      refine m2_getR hB dX11_counts_65 fl_X11_80 sh_kC (c1 := kF) rfl ?_
      refine m2_getR hB dX11_counts_68 fl_X11_300 sh_kF (c1 := kF_lets) rfl ?_
      refine m2_iload_n hB dX11_counts_71 rfl ?_
      refine m2_aload_n hB dX11_counts_72 rfl ?_
      refine m2_getR hB dX11_counts_73 fl_X11_39 sh_kC (c1 := kD) rfl ?_
      refine m2_getR hB dX11_counts_76 fl_X11_158 sh_kD (c1 := kD_left) rfl ?_
      refine m2_iload_n hB dX11_counts_79 rfl ?_
      obtain ⟨hi25, k⟩ := k
      refine m2_iald hB dX11_counts_80 sh_kD_left hi25 ?_
      refine m2_iconst hB dX11_counts_81 (v := 1) (by decide) ?_
      refine m2_iadd hB dX11_counts_82 ?_
      have hi26 := hi19
      refine m2_iast hB dX11_counts_83 sh_kF_lets hi26 ?_
      refine m2_aload_n hB dX11_counts_84 rfl ?_
      refine m2_getR hB dX11_counts_85 fl_X11_80 sh_kC (c1 := kF) rfl ?_
      refine m2_iload_n hB dX11_counts_88 rfl ?_
      refine m2_iload_n hB dX11_counts_89 rfl ?_
      obtain ⟨Q29, hM30, k⟩ := k
      refine m2_invi hB (as := [.int x1, .int x2]) dX11_counts_90 mv_X11_294 rfl sh_kF rfl (Nat.le_of_ble_eq_true rfl) rfl hM30 (fun y27 μ28 hq31 => ?_)
      replace k := k y27 μ28 hq31
      refine m2_istore hB (ls' := [.ref kC, .int x1, .int x2, .int x3, .int y14, .int y20, .int y27]) dX11_counts_93 (by decide) rfl ?_
      refine m2_aload_n hB dX11_counts_95 rfl ?_
      refine m2_iconst hB dX11_counts_96 (v := 0) (by decide) ?_
      refine m2_putI hB dX11_counts_97 fl_X11_240 sh_kC rfl ?_
      refine m2_aload_n hB dX11_counts_100 rfl ?_
      refine m2_iload hB dX11_counts_101 rfl ?_
      refine m2_iload hB dX11_counts_103 rfl ?_
      refine m2_isub hB dX11_counts_105 ?_
      refine m2_i2l hB dX11_counts_106 ?_
      obtain ⟨Q34, hM35, k⟩ := k
      refine m2_invv hB (as := [.long ((y27 - y14)).toInt64]) dX11_counts_107 mv_X11_269 rfl sh_kC rfl (Nat.le_of_ble_eq_true rfl) rfl hM35 (fun μ33 hq36 => ?_)
      replace k := k μ33 hq36
      refine m2_iload hB dX11_counts_110 rfl ?_
      refine m2_iload hB dX11_counts_112 rfl ?_
      refine m2_isub hB dX11_counts_114 ?_
      exact m2_iret h dX11_counts_115 k
    · rw [if_neg q8]
      replace k := k.2 q8
      refine m2_if_ne hB dX11_counts_16 (tgt := 21) (by decide) (fun q => absurd q (by decide)) (fun _ => ?_)
      refine m2_iconst hB dX11_counts_19 (v := (-1)) (by decide) ?_
      exact m2_iret h dX11_counts_20 k
  · rw [if_neg q4]
    replace k := k.2 q4
    refine m2_if_eq hB dX11_counts_5 (tgt := 19) (by decide) (fun _ => ?_) (fun q => absurd q (by decide))
    refine m2_iconst hB dX11_counts_19 (v := (-1)) (by decide) ?_
    exact m2_iret h dX11_counts_20 k
theorem dX11_more_0 : decode cX11_more 0 = .ok (.iload_n 1, 1) := by decide +kernel
theorem dX11_more_1 : decode cX11_more 1 = .ok (.iconst 2, 1) := by decide +kernel
theorem dX11_more_2 : decode cX11_more 2 = .ok (.if_icmp .lt 9, 3) := by decide +kernel
theorem dX11_more_5 : decode cX11_more 5 = .ok (.iload_n 1, 1) := by decide +kernel
theorem dX11_more_6 : decode cX11_more 6 = .ok (.bipush 12, 2) := by decide +kernel
theorem dX11_more_8 : decode cX11_more 8 = .ok (.if_icmp .le 5, 3) := by decide +kernel
theorem dX11_more_11 : decode cX11_more 11 = .ok (.iconst (-1), 1) := by decide +kernel
theorem dX11_more_12 : decode cX11_more 12 = .ok (.ireturn, 1) := by decide +kernel
theorem dX11_more_13 : decode cX11_more 13 = .ok (.aload_n 0, 1) := by decide +kernel
theorem dX11_more_14 : decode cX11_more 14 = .ok (.getfield 39, 3) := by decide +kernel
theorem dX11_more_17 : decode cX11_more 17 = .ok (.getfield 191, 3) := by decide +kernel
theorem dX11_more_20 : decode cX11_more 20 = .ok (.ifCond .ne 6, 3) := by decide +kernel
theorem dX11_more_23 : decode cX11_more 23 = .ok (.bipush (-2), 2) := by decide +kernel
theorem dX11_more_25 : decode cX11_more 25 = .ok (.ireturn, 1) := by decide +kernel
theorem dX11_more_26 : decode cX11_more 26 = .ok (.aload_n 0, 1) := by decide +kernel
theorem dX11_more_27 : decode cX11_more 27 = .ok (.getfield 80, 3) := by decide +kernel
theorem dX11_more_30 : decode cX11_more 30 = .ok (.aload_n 0, 1) := by decide +kernel
theorem dX11_more_31 : decode cX11_more 31 = .ok (.getfield 39, 3) := by decide +kernel
theorem dX11_more_34 : decode cX11_more 34 = .ok (.invokevirtual 291, 3) := by decide +kernel
theorem dX11_more_37 : decode cX11_more 37 = .ok (.aload_n 0, 1) := by decide +kernel
theorem dX11_more_38 : decode cX11_more 38 = .ok (.getfield 80, 3) := by decide +kernel
theorem dX11_more_41 : decode cX11_more 41 = .ok (.iload_n 1, 1) := by decide +kernel
theorem dX11_more_42 : decode cX11_more 42 = .ok (.invokevirtual 301, 3) := by decide +kernel
theorem dX11_more_45 : decode cX11_more 45 = .ok (.istore_n 2, 1) := by decide +kernel
theorem dX11_more_46 : decode cX11_more 46 = .ok (.iconst 0, 1) := by decide +kernel
theorem dX11_more_47 : decode cX11_more 47 = .ok (.istore_n 3, 1) := by decide +kernel
theorem dX11_more_48 : decode cX11_more 48 = .ok (.iconst 1, 1) := by decide +kernel
theorem dX11_more_49 : decode cX11_more 49 = .ok (.istore 4, 2) := by decide +kernel
theorem dX11_more_51 : decode cX11_more 51 = .ok (.iload 4, 2) := by decide +kernel
theorem dX11_more_53 : decode cX11_more 53 = .ok (.aload_n 0, 1) := by decide +kernel
theorem dX11_more_54 : decode cX11_more 54 = .ok (.getfield 39, 3) := by decide +kernel
theorem dX11_more_57 : decode cX11_more 57 = .ok (.getfield 191, 3) := by decide +kernel
theorem dX11_more_60 : decode cX11_more 60 = .ok (.if_icmp .ge 34, 3) := by decide +kernel
theorem dX11_more_63 : decode cX11_more 63 = .ok (.aload_n 0, 1) := by decide +kernel
theorem dX11_more_64 : decode cX11_more 64 = .ok (.getfield 80, 3) := by decide +kernel
theorem dX11_more_67 : decode cX11_more 67 = .ok (.getfield 304, 3) := by decide +kernel
theorem dX11_more_70 : decode cX11_more 70 = .ok (.iload 4, 2) := by decide +kernel
theorem dX11_more_72 : decode cX11_more 72 = .ok (.iaload, 1) := by decide +kernel
theorem dX11_more_73 : decode cX11_more 73 = .ok (.aload_n 0, 1) := by decide +kernel
theorem dX11_more_74 : decode cX11_more 74 = .ok (.getfield 80, 3) := by decide +kernel
theorem dX11_more_77 : decode cX11_more 77 = .ok (.getfield 304, 3) := by decide +kernel
theorem dX11_more_80 : decode cX11_more 80 = .ok (.iload_n 3, 1) := by decide +kernel
theorem dX11_more_81 : decode cX11_more 81 = .ok (.iaload, 1) := by decide +kernel
theorem dX11_more_82 : decode cX11_more 82 = .ok (.if_icmp .le 6, 3) := by decide +kernel
theorem dX11_more_85 : decode cX11_more 85 = .ok (.iload 4, 2) := by decide +kernel
theorem dX11_more_87 : decode cX11_more 87 = .ok (.istore_n 3, 1) := by decide +kernel
theorem dX11_more_88 : decode cX11_more 88 = .ok (.iinc 4 1, 3) := by decide +kernel
theorem dX11_more_91 : decode cX11_more 91 = .ok (.goto (-40), 3) := by decide +kernel
theorem dX11_more_94 : decode cX11_more 94 = .ok (.aload_n 0, 1) := by decide +kernel
theorem dX11_more_95 : decode cX11_more 95 = .ok (.iconst 0, 1) := by decide +kernel
theorem dX11_more_96 : decode cX11_more 96 = .ok (.putfield 240, 3) := by decide +kernel
theorem dX11_more_99 : decode cX11_more 99 = .ok (.aload_n 0, 1) := by decide +kernel
theorem dX11_more_100 : decode cX11_more 100 = .ok (.iload_n 2, 1) := by decide +kernel
theorem dX11_more_101 : decode cX11_more 101 = .ok (.aload_n 0, 1) := by decide +kernel
theorem dX11_more_102 : decode cX11_more 102 = .ok (.getfield 80, 3) := by decide +kernel
theorem dX11_more_105 : decode cX11_more 105 = .ok (.getfield 304, 3) := by decide +kernel
theorem dX11_more_108 : decode cX11_more 108 = .ok (.iload_n 3, 1) := by decide +kernel
theorem dX11_more_109 : decode cX11_more 109 = .ok (.iaload, 1) := by decide +kernel
theorem dX11_more_110 : decode cX11_more 110 = .ok (.iadd, 1) := by decide +kernel
theorem dX11_more_111 : decode cX11_more 111 = .ok (.i2l, 1) := by decide +kernel
theorem dX11_more_112 : decode cX11_more 112 = .ok (.invokevirtual 269, 3) := by decide +kernel
theorem dX11_more_115 : decode cX11_more 115 = .ok (.aload_n 0, 1) := by decide +kernel
theorem dX11_more_116 : decode cX11_more 116 = .ok (.iload_n 2, 1) := by decide +kernel
theorem dX11_more_117 : decode cX11_more 117 = .ok (.i2l, 1) := by decide +kernel
theorem dX11_more_118 : decode cX11_more 118 = .ok (.invokevirtual 269, 3) := by decide +kernel
theorem dX11_more_121 : decode cX11_more 121 = .ok (.iload_n 3, 1) := by decide +kernel
theorem dX11_more_122 : decode cX11_more 122 = .ok (.ireturn, 1) := by decide +kernel
set_option maxRecDepth 100000 in
set_option maxHeartbeats 4000000 in
theorem B_X11_more_0 {κ : Nat → List Value → List Value → m2M → Prop} {D : Nat} {Q : Option Value → m2M → Prop} (h : m2_RL κ cX11_more RX11 5 (D + 1) (some .int) Q) {x1 : Int32} {μ : m2M} (k : (x1 < 2 → Q (some (.int (-1))) μ) ∧ (¬ x1 < 2 → (x1 ≤ 12 → (¬ (μ.1 kD 6) = 0 → ∃ Q6 : Option Value → m2M → Prop, m2_MT D yX1_load cX1_load 3 none [.ref kF, .ref kD] μ Q6 ∧ ∀ (μ5 : m2M), Q6 none μ5 → (∃ Q11 : Option Value → m2M → Prop, m2_MT D yX1_sumOfPairs cX1_sumOfPairs 5 (some .int) [.ref kF, .int x1] μ5 Q11 ∧ ∀ (y9 : Int32) (μ10 : m2M), Q11 (some (.int y9)) μ10 → (κ 51 [.ref kC, .int x1, .int y9, .int 0, .int 1] [] μ10))) ∧ ((μ.1 kD 6) = 0 → Q (some (.int (-2))) μ)) ∧ (¬ x1 ≤ 12 → Q (some (.int (-1))) μ))) : κ 0 [.ref kC, .int x1, .null, .null, .null] [] μ := by
  have hB := h.b
  refine m2_iload_n hB dX11_more_0 rfl ?_
  refine m2_iconst hB dX11_more_1 (v := 2) (by decide) ?_
  refine m2_icmp_lt hB dX11_more_2 (tgt := 11) (by decide) (fun q1 : x1 < 2 => ?_) (fun q1 : ¬ x1 < 2 => ?_)
  · replace k := k.1 q1
    refine m2_iconst hB dX11_more_11 (v := (-1)) (by decide) ?_
    exact m2_iret h dX11_more_12 k
  · replace k := k.2 q1
    refine m2_iload_n hB dX11_more_5 rfl ?_
    refine m2_bipush hB dX11_more_6 (v := 12) (by decide) ?_
    refine m2_icmp_le hB dX11_more_8 (tgt := 13) (by decide) (fun q2 : x1 ≤ 12 => ?_) (fun q2 : ¬ x1 ≤ 12 => ?_)
    · replace k := k.1 q2
      refine m2_aload_n hB dX11_more_13 rfl ?_
      refine m2_getR hB dX11_more_14 fl_X11_39 sh_kC (c1 := kD) rfl ?_
      refine m2_getI hB dX11_more_17 fl_X11_191 sh_kD rfl ?_
      refine m2_if_ne hB dX11_more_20 (tgt := 26) (by decide) (fun q3 : ¬ (μ.1 kD 6) = 0 => ?_) (fun q3 : (μ.1 kD 6) = 0 => ?_)
      · replace k := k.1 q3
        refine m2_aload_n hB dX11_more_26 rfl ?_
        refine m2_getR hB dX11_more_27 fl_X11_80 sh_kC (c1 := kF) rfl ?_
        refine m2_aload_n hB dX11_more_30 rfl ?_
        refine m2_getR hB dX11_more_31 fl_X11_39 sh_kC (c1 := kD) rfl ?_
        obtain ⟨Q6, hM7, k⟩ := k
        refine m2_invv hB (as := [.ref kD]) dX11_more_34 mv_X11_291 rfl sh_kF rfl (Nat.le_of_ble_eq_true rfl) rfl hM7 (fun μ5 hq8 => ?_)
        replace k := k μ5 hq8
        refine m2_aload_n hB dX11_more_37 rfl ?_
        refine m2_getR hB dX11_more_38 fl_X11_80 sh_kC (c1 := kF) rfl ?_
        refine m2_iload_n hB dX11_more_41 rfl ?_
        obtain ⟨Q11, hM12, k⟩ := k
        refine m2_invi hB (as := [.int x1]) dX11_more_42 mv_X11_301 rfl sh_kF rfl (Nat.le_of_ble_eq_true rfl) rfl hM12 (fun y9 μ10 hq13 => ?_)
        replace k := k y9 μ10 hq13
        refine m2_istore_n hB (ls' := [.ref kC, .int x1, .int y9, .null, .null]) dX11_more_45 rfl (by decide) rfl ?_
        refine m2_iconst hB dX11_more_46 (v := 0) (by decide) ?_
        refine m2_istore_n hB (ls' := [.ref kC, .int x1, .int y9, .int 0, .null]) dX11_more_47 rfl (by decide) rfl ?_
        refine m2_iconst hB dX11_more_48 (v := 1) (by decide) ?_
        refine m2_istore hB (ls' := [.ref kC, .int x1, .int y9, .int 0, .int 1]) dX11_more_49 (by decide) rfl ?_
        exact k
      · replace k := k.2 q3
        refine m2_bipush hB dX11_more_23 (v := (-2)) (by decide) ?_
        exact m2_iret h dX11_more_25 k
    · replace k := k.2 q2
      refine m2_iconst hB dX11_more_11 (v := (-1)) (by decide) ?_
      exact m2_iret h dX11_more_12 k
set_option maxRecDepth 100000 in
set_option maxHeartbeats 4000000 in
theorem B_X11_more_51 {κ : Nat → List Value → List Value → m2M → Prop} {D : Nat} {Q : Option Value → m2M → Prop} (h : m2_RL κ cX11_more RX11 5 (D + 1) (some .int) Q) {v1 : Int32} {v2 : Int32} {v3 : Int32} {v4 : Int32} {μ : m2M} (k : ((μ.1 kD 6) ≤ v4 → (vp_in v3 20) ∧ (∃ Q6 : Option Value → m2M → Prop, m2_MT D yX11_tell cX11_tell 3 none [.ref kC, .long ((v2 + (μ.1 kF_gain (v3).toNatClampNeg))).toInt64] (m2_si μ kC 3 0) Q6 ∧ ∀ (μ5 : m2M), Q6 none μ5 → (∃ Q11 : Option Value → m2M → Prop, m2_MT D yX11_tell cX11_tell 3 none [.ref kC, .long (v2).toInt64] μ5 Q11 ∧ ∀ (μ10 : m2M), Q11 none μ10 → (Q (some (.int v3)) μ10)))) ∧ (¬ (μ.1 kD 6) ≤ v4 → (vp_in v4 20) ∧ ((vp_in v3 20) ∧ (κ 51 [.ref kC, .int v1, .int v2, .int (if (μ.1 kF_gain (v4).toNatClampNeg) ≤ (μ.1 kF_gain (v3).toNatClampNeg) then v3 else v4 : Int32), .int (v4 + 1)] [] μ)))) : κ 51 [.ref kC, .int v1, .int v2, .int v3, .int v4] [] μ := by
  have hB := h.b
  refine m2_iload hB dX11_more_51 rfl ?_
  refine m2_aload_n hB dX11_more_53 rfl ?_
  refine m2_getR hB dX11_more_54 fl_X11_39 sh_kC (c1 := kD) rfl ?_
  refine m2_getI hB dX11_more_57 fl_X11_191 sh_kD rfl ?_
  refine m2_icmp_ge hB dX11_more_60 (tgt := 94) (by decide) (fun q2 : (μ.1 kD 6) ≤ v4 => ?_) (fun q2 : ¬ (μ.1 kD 6) ≤ v4 => ?_)
  · replace k := k.1 q2
    refine m2_aload_n hB dX11_more_94 rfl ?_
    refine m2_iconst hB dX11_more_95 (v := 0) (by decide) ?_
    refine m2_putI hB dX11_more_96 fl_X11_240 sh_kC rfl ?_
    refine m2_aload_n hB dX11_more_99 rfl ?_
    refine m2_iload_n hB dX11_more_100 rfl ?_
    refine m2_aload_n hB dX11_more_101 rfl ?_
    refine m2_getR hB dX11_more_102 fl_X11_80 sh_kC (c1 := kF) rfl ?_
    refine m2_getR hB dX11_more_105 fl_X11_304 sh_kF (c1 := kF_gain) rfl ?_
    refine m2_iload_n hB dX11_more_108 rfl ?_
    obtain ⟨hi3, k⟩ := k
    refine m2_iald hB dX11_more_109 sh_kF_gain hi3 ?_
    refine m2_iadd hB dX11_more_110 ?_
    refine m2_i2l hB dX11_more_111 ?_
    obtain ⟨Q6, hM7, k⟩ := k
    refine m2_invv hB (as := [.long ((v2 + (μ.1 kF_gain (v3).toNatClampNeg))).toInt64]) dX11_more_112 mv_X11_269 rfl sh_kC rfl (Nat.le_of_ble_eq_true rfl) rfl hM7 (fun μ5 hq8 => ?_)
    replace k := k μ5 hq8
    refine m2_aload_n hB dX11_more_115 rfl ?_
    refine m2_iload_n hB dX11_more_116 rfl ?_
    refine m2_i2l hB dX11_more_117 ?_
    obtain ⟨Q11, hM12, k⟩ := k
    refine m2_invv hB (as := [.long (v2).toInt64]) dX11_more_118 mv_X11_269 rfl sh_kC rfl (Nat.le_of_ble_eq_true rfl) rfl hM12 (fun μ10 hq13 => ?_)
    replace k := k μ10 hq13
    refine m2_iload_n hB dX11_more_121 rfl ?_
    exact m2_iret h dX11_more_122 k
  · replace k := k.2 q2
    refine m2_aload_n hB dX11_more_63 rfl ?_
    refine m2_getR hB dX11_more_64 fl_X11_80 sh_kC (c1 := kF) rfl ?_
    refine m2_getR hB dX11_more_67 fl_X11_304 sh_kF (c1 := kF_gain) rfl ?_
    refine m2_iload hB dX11_more_70 rfl ?_
    obtain ⟨hi14, k⟩ := k
    refine m2_iald hB dX11_more_72 sh_kF_gain hi14 ?_
    refine m2_aload_n hB dX11_more_73 rfl ?_
    refine m2_getR hB dX11_more_74 fl_X11_80 sh_kC (c1 := kF) rfl ?_
    refine m2_getR hB dX11_more_77 fl_X11_304 sh_kF (c1 := kF_gain) rfl ?_
    refine m2_iload_n hB dX11_more_80 rfl ?_
    obtain ⟨hi15, k⟩ := k
    refine m2_iald hB dX11_more_81 sh_kF_gain hi15 ?_
    have G17 : κ 88 [.ref kC, .int v1, .int v2, .int (if (μ.1 kF_gain (v4).toNatClampNeg) ≤ (μ.1 kF_gain (v3).toNatClampNeg) then v3 else v4 : Int32), .int v4] [] μ := by
      refine m2_iinc hB (ls' := [.ref kC, .int v1, .int v2, .int (if (μ.1 kF_gain (v4).toNatClampNeg) ≤ (μ.1 kF_gain (v3).toNatClampNeg) then v3 else v4 : Int32), .int (v4 + 1)]) (v := (v4 + 1)) dX11_more_88 rfl (by decide) rfl rfl ?_
      refine m2_goto hB dX11_more_91 (tgt := 51) (by decide) ?_
      exact k
    refine m2_icmp_le hB dX11_more_82 (tgt := 88) (by decide) (fun q16 : (μ.1 kF_gain (v4).toNatClampNeg) ≤ (μ.1 kF_gain (v3).toNatClampNeg) => ?_) (fun q16 : ¬ (μ.1 kF_gain (v4).toNatClampNeg) ≤ (μ.1 kF_gain (v3).toNatClampNeg) => ?_)
    · rw [if_pos q16] at G17
      exact G17
    · rw [if_neg q16] at G17
      refine m2_iload hB dX11_more_85 rfl ?_
      refine m2_istore_n hB (ls' := [.ref kC, .int v1, .int v2, .int v4, .int v4]) dX11_more_87 rfl (by decide) rfl ?_
      exact G17
theorem dX11_build_0 : decode cX11_build 0 = .ok (.iload_n 1, 1) := by decide +kernel
theorem dX11_build_1 : decode cX11_build 1 = .ok (.iload_n 2, 1) := by decide +kernel
theorem dX11_build_2 : decode cX11_build 2 = .ok (.invokestatic 287, 3) := by decide +kernel
theorem dX11_build_5 : decode cX11_build 5 = .ok (.ifCond .eq 27, 3) := by decide +kernel
theorem dX11_build_8 : decode cX11_build 8 = .ok (.iload_n 3, 1) := by decide +kernel
theorem dX11_build_9 : decode cX11_build 9 = .ok (.iconst 2, 1) := by decide +kernel
theorem dX11_build_10 : decode cX11_build 10 = .ok (.if_icmp .lt 22, 3) := by decide +kernel
theorem dX11_build_13 : decode cX11_build 13 = .ok (.iload_n 3, 1) := by decide +kernel
theorem dX11_build_14 : decode cX11_build 14 = .ok (.bipush 12, 2) := by decide +kernel
theorem dX11_build_16 : decode cX11_build 16 = .ok (.if_icmp .gt 16, 3) := by decide +kernel
theorem dX11_build_19 : decode cX11_build 19 = .ok (.iload 4, 2) := by decide +kernel
theorem dX11_build_21 : decode cX11_build 21 = .ok (.iconst 1, 1) := by decide +kernel
theorem dX11_build_22 : decode cX11_build 22 = .ok (.if_icmp .lt 10, 3) := by decide +kernel
theorem dX11_build_25 : decode cX11_build 25 = .ok (.iload 4, 2) := by decide +kernel
theorem dX11_build_27 : decode cX11_build 27 = .ok (.bipush 60, 2) := by decide +kernel
theorem dX11_build_29 : decode cX11_build 29 = .ok (.if_icmp .le 5, 3) := by decide +kernel
theorem dX11_build_32 : decode cX11_build 32 = .ok (.iconst (-1), 1) := by decide +kernel
theorem dX11_build_33 : decode cX11_build 33 = .ok (.ireturn, 1) := by decide +kernel
theorem dX11_build_34 : decode cX11_build 34 = .ok (.aload_n 0, 1) := by decide +kernel
theorem dX11_build_35 : decode cX11_build 35 = .ok (.getfield 80, 3) := by decide +kernel
theorem dX11_build_38 : decode cX11_build 38 = .ok (.aload_n 0, 1) := by decide +kernel
theorem dX11_build_39 : decode cX11_build 39 = .ok (.getfield 39, 3) := by decide +kernel
theorem dX11_build_42 : decode cX11_build 42 = .ok (.invokevirtual 291, 3) := by decide +kernel
theorem dX11_build_45 : decode cX11_build 45 = .ok (.iconst (-1), 1) := by decide +kernel
theorem dX11_build_46 : decode cX11_build 46 = .ok (.istore 5, 2) := by decide +kernel
theorem dX11_build_48 : decode cX11_build 48 = .ok (.iconst 0, 1) := by decide +kernel
theorem dX11_build_49 : decode cX11_build 49 = .ok (.istore 6, 2) := by decide +kernel
theorem dX11_build_51 : decode cX11_build 51 = .ok (.iload 6, 2) := by decide +kernel
theorem dX11_build_53 : decode cX11_build 53 = .ok (.iload_n 3, 1) := by decide +kernel
theorem dX11_build_54 : decode cX11_build 54 = .ok (.if_icmp .ge 81, 3) := by decide +kernel
theorem dX11_build_57 : decode cX11_build 57 = .ok (.iload 6, 2) := by decide +kernel
theorem dX11_build_59 : decode cX11_build 59 = .ok (.iconst 1, 1) := by decide +kernel
theorem dX11_build_60 : decode cX11_build 60 = .ok (.iadd, 1) := by decide +kernel
theorem dX11_build_61 : decode cX11_build 61 = .ok (.istore 7, 2) := by decide +kernel
theorem dX11_build_63 : decode cX11_build 63 = .ok (.iload 7, 2) := by decide +kernel
theorem dX11_build_65 : decode cX11_build 65 = .ok (.iload_n 3, 1) := by decide +kernel
theorem dX11_build_66 : decode cX11_build 66 = .ok (.if_icmp .ge 63, 3) := by decide +kernel
theorem dX11_build_69 : decode cX11_build 69 = .ok (.aload_n 0, 1) := by decide +kernel
theorem dX11_build_70 : decode cX11_build 70 = .ok (.getfield 80, 3) := by decide +kernel
theorem dX11_build_73 : decode cX11_build 73 = .ok (.iload 6, 2) := by decide +kernel
theorem dX11_build_75 : decode cX11_build 75 = .ok (.iload 7, 2) := by decide +kernel
theorem dX11_build_77 : decode cX11_build 77 = .ok (.iload 4, 2) := by decide +kernel
theorem dX11_build_79 : decode cX11_build 79 = .ok (.invokevirtual 307, 3) := by decide +kernel
theorem dX11_build_82 : decode cX11_build 82 = .ok (.aload_n 0, 1) := by decide +kernel
theorem dX11_build_83 : decode cX11_build 83 = .ok (.getfield 80, 3) := by decide +kernel
theorem dX11_build_86 : decode cX11_build 86 = .ok (.iload_n 1, 1) := by decide +kernel
theorem dX11_build_87 : decode cX11_build 87 = .ok (.iload_n 2, 1) := by decide +kernel
theorem dX11_build_88 : decode cX11_build 88 = .ok (.invokevirtual 294, 3) := by decide +kernel
theorem dX11_build_91 : decode cX11_build 91 = .ok (.istore 8, 2) := by decide +kernel
theorem dX11_build_93 : decode cX11_build 93 = .ok (.iload 8, 2) := by decide +kernel
theorem dX11_build_95 : decode cX11_build 95 = .ok (.iload 5, 2) := by decide +kernel
theorem dX11_build_97 : decode cX11_build 97 = .ok (.if_icmp .le 26, 3) := by decide +kernel
theorem dX11_build_100 : decode cX11_build 100 = .ok (.iload 8, 2) := by decide +kernel
theorem dX11_build_102 : decode cX11_build 102 = .ok (.istore 5, 2) := by decide +kernel
theorem dX11_build_104 : decode cX11_build 104 = .ok (.aload_n 0, 1) := by decide +kernel
theorem dX11_build_105 : decode cX11_build 105 = .ok (.iconst 0, 1) := by decide +kernel
theorem dX11_build_106 : decode cX11_build 106 = .ok (.putfield 240, 3) := by decide +kernel
theorem dX11_build_109 : decode cX11_build 109 = .ok (.aload_n 0, 1) := by decide +kernel
theorem dX11_build_110 : decode cX11_build 110 = .ok (.iload 6, 2) := by decide +kernel
theorem dX11_build_112 : decode cX11_build 112 = .ok (.i2l, 1) := by decide +kernel
theorem dX11_build_113 : decode cX11_build 113 = .ok (.invokevirtual 269, 3) := by decide +kernel
theorem dX11_build_116 : decode cX11_build 116 = .ok (.aload_n 0, 1) := by decide +kernel
theorem dX11_build_117 : decode cX11_build 117 = .ok (.iload 7, 2) := by decide +kernel
theorem dX11_build_119 : decode cX11_build 119 = .ok (.i2l, 1) := by decide +kernel
theorem dX11_build_120 : decode cX11_build 120 = .ok (.invokevirtual 269, 3) := by decide +kernel
theorem dX11_build_123 : decode cX11_build 123 = .ok (.iinc 7 1, 3) := by decide +kernel
theorem dX11_build_126 : decode cX11_build 126 = .ok (.goto (-63), 3) := by decide +kernel
theorem dX11_build_129 : decode cX11_build 129 = .ok (.iinc 6 1, 3) := by decide +kernel
theorem dX11_build_132 : decode cX11_build 132 = .ok (.goto (-81), 3) := by decide +kernel
theorem dX11_build_135 : decode cX11_build 135 = .ok (.iload 5, 2) := by decide +kernel
theorem dX11_build_137 : decode cX11_build 137 = .ok (.ireturn, 1) := by decide +kernel
set_option maxRecDepth 100000 in
set_option maxHeartbeats 4000000 in
theorem B_X11_build_0 {κ : Nat → List Value → List Value → m2M → Prop} {D : Nat} {Q : Option Value → m2M → Prop} (h : m2_RL κ cX11_build RX11 9 (D + 1) (some .int) Q) (hD : 1 ≤ D) {x1 : Int32} {x2 : Int32} {x3 : Int32} {x4 : Int32} {μ : m2M} (k : ((fX11_areUnlikeRooms x1 x2) = 1 → (x3 < 2 → Q (some (.int (-1))) μ) ∧ (¬ x3 < 2 → (12 < x3 → Q (some (.int (-1))) μ) ∧ (¬ 12 < x3 → (x4 < 1 → Q (some (.int (-1))) μ) ∧ (¬ x4 < 1 → (x4 ≤ 60 → ∃ Q11 : Option Value → m2M → Prop, m2_MT D yX1_load cX1_load 3 none [.ref kF, .ref kD] μ Q11 ∧ ∀ (μ10 : m2M), Q11 none μ10 → (κ 51 [.ref kC, .int x1, .int x2, .int x3, .int x4, .int (-1), .int 0, .null, .null] [] μ10)) ∧ (¬ x4 ≤ 60 → Q (some (.int (-1))) μ))))) ∧ (¬ (fX11_areUnlikeRooms x1 x2) = 1 → Q (some (.int (-1))) μ)) : κ 0 [.ref kC, .int x1, .int x2, .int x3, .int x4, .null, .null, .null, .null] [] μ := by
  have hB := h.b
  refine m2_iload_n hB dX11_build_0 rfl ?_
  refine m2_iload_n hB dX11_build_1 rfl ?_
  refine m2_invSz hB (as := [.int x1, .int x2]) dX11_build_2 ms_X11_287 rfl (Nat.le_of_ble_eq_true rfl) rfl (P_X11_areUnlikeRooms (by omega) (x1) (x2) _ ) (fun y1 μ2 hq3 => ?_)
  obtain ⟨⟨⟩, hq3⟩ := hq3
  subst μ2
  show κ 5 [.ref kC, .int x1, .int x2, .int x3, .int x4, .null, .null, .null, .null] [.int (if (fX11_areUnlikeRooms x1 x2) = 1 then 1 else 0 : Int32)] μ
  by_cases q4 : (fX11_areUnlikeRooms x1 x2) = 1
  · rw [if_pos q4]
    replace k := k.1 q4
    refine m2_if_eq hB dX11_build_5 (tgt := 32) (by decide) (fun q => absurd q (by decide)) (fun _ => ?_)
    refine m2_iload_n hB dX11_build_8 rfl ?_
    refine m2_iconst hB dX11_build_9 (v := 2) (by decide) ?_
    refine m2_icmp_lt hB dX11_build_10 (tgt := 32) (by decide) (fun q5 : x3 < 2 => ?_) (fun q5 : ¬ x3 < 2 => ?_)
    · replace k := k.1 q5
      refine m2_iconst hB dX11_build_32 (v := (-1)) (by decide) ?_
      exact m2_iret h dX11_build_33 k
    · replace k := k.2 q5
      refine m2_iload_n hB dX11_build_13 rfl ?_
      refine m2_bipush hB dX11_build_14 (v := 12) (by decide) ?_
      refine m2_icmp_gt hB dX11_build_16 (tgt := 32) (by decide) (fun q6 : 12 < x3 => ?_) (fun q6 : ¬ 12 < x3 => ?_)
      · replace k := k.1 q6
        refine m2_iconst hB dX11_build_32 (v := (-1)) (by decide) ?_
        exact m2_iret h dX11_build_33 k
      · replace k := k.2 q6
        refine m2_iload hB dX11_build_19 rfl ?_
        refine m2_iconst hB dX11_build_21 (v := 1) (by decide) ?_
        refine m2_icmp_lt hB dX11_build_22 (tgt := 32) (by decide) (fun q7 : x4 < 1 => ?_) (fun q7 : ¬ x4 < 1 => ?_)
        · replace k := k.1 q7
          refine m2_iconst hB dX11_build_32 (v := (-1)) (by decide) ?_
          exact m2_iret h dX11_build_33 k
        · replace k := k.2 q7
          refine m2_iload hB dX11_build_25 rfl ?_
          refine m2_bipush hB dX11_build_27 (v := 60) (by decide) ?_
          refine m2_icmp_le hB dX11_build_29 (tgt := 34) (by decide) (fun q8 : x4 ≤ 60 => ?_) (fun q8 : ¬ x4 ≤ 60 => ?_)
          · replace k := k.1 q8
            refine m2_aload_n hB dX11_build_34 rfl ?_
            refine m2_getR hB dX11_build_35 fl_X11_80 sh_kC (c1 := kF) rfl ?_
            refine m2_aload_n hB dX11_build_38 rfl ?_
            refine m2_getR hB dX11_build_39 fl_X11_39 sh_kC (c1 := kD) rfl ?_
            obtain ⟨Q11, hM12, k⟩ := k
            refine m2_invv hB (as := [.ref kD]) dX11_build_42 mv_X11_291 rfl sh_kF rfl (Nat.le_of_ble_eq_true rfl) rfl hM12 (fun μ10 hq13 => ?_)
            replace k := k μ10 hq13
            refine m2_iconst hB dX11_build_45 (v := (-1)) (by decide) ?_
            refine m2_istore hB (ls' := [.ref kC, .int x1, .int x2, .int x3, .int x4, .int (-1), .null, .null, .null]) dX11_build_46 (by decide) rfl ?_
            refine m2_iconst hB dX11_build_48 (v := 0) (by decide) ?_
            refine m2_istore hB (ls' := [.ref kC, .int x1, .int x2, .int x3, .int x4, .int (-1), .int 0, .null, .null]) dX11_build_49 (by decide) rfl ?_
            exact k
          · replace k := k.2 q8
            refine m2_iconst hB dX11_build_32 (v := (-1)) (by decide) ?_
            exact m2_iret h dX11_build_33 k
  · rw [if_neg q4]
    replace k := k.2 q4
    refine m2_if_eq hB dX11_build_5 (tgt := 32) (by decide) (fun _ => ?_) (fun q => absurd q (by decide))
    refine m2_iconst hB dX11_build_32 (v := (-1)) (by decide) ?_
    exact m2_iret h dX11_build_33 k
set_option maxRecDepth 100000 in
set_option maxHeartbeats 4000000 in
theorem B_X11_build_51 {κ : Nat → List Value → List Value → m2M → Prop} {D : Nat} {Q : Option Value → m2M → Prop} (h : m2_RL κ cX11_build RX11 9 D (some .int) Q) {v1 : Int32} {v2 : Int32} {v3 : Int32} {v4 : Int32} {v5 : Int32} {v6 : Int32} {μ : m2M} (k : (v3 ≤ v6 → Q (some (.int v5)) μ) ∧ (¬ v3 ≤ v6 → κ 63 [.ref kC, .int v1, .int v2, .int v3, .int v4, .int v5, .int v6, .int (v6 + 1), .null] [] μ)) : κ 51 [.ref kC, .int v1, .int v2, .int v3, .int v4, .int v5, .int v6, .null, .null] [] μ := by
  have hB := h.b
  refine m2_iload hB dX11_build_51 rfl ?_
  refine m2_iload_n hB dX11_build_53 rfl ?_
  refine m2_icmp_ge hB dX11_build_54 (tgt := 135) (by decide) (fun q1 : v3 ≤ v6 => ?_) (fun q1 : ¬ v3 ≤ v6 => ?_)
  · replace k := k.1 q1
    refine m2_iload hB dX11_build_135 rfl ?_
    exact m2_iret h dX11_build_137 k
  · replace k := k.2 q1
    refine m2_iload hB dX11_build_57 rfl ?_
    refine m2_iconst hB dX11_build_59 (v := 1) (by decide) ?_
    refine m2_iadd hB dX11_build_60 ?_
    refine m2_istore hB (ls' := [.ref kC, .int v1, .int v2, .int v3, .int v4, .int v5, .int v6, .int (v6 + 1), .null]) dX11_build_61 (by decide) rfl ?_
    exact k
set_option maxRecDepth 100000 in
set_option maxHeartbeats 4000000 in
theorem B_X11_build_63 {κ : Nat → List Value → List Value → m2M → Prop} {D : Nat} {Q : Option Value → m2M → Prop} (h : m2_RL κ cX11_build RX11 9 (D + 1) (some .int) Q) {v1 : Int32} {v2 : Int32} {v3 : Int32} {v4 : Int32} {v5 : Int32} {v6 : Int32} {v7 : Int32} {μ : m2M} (k : (v3 ≤ v7 → κ 51 [.ref kC, .int v1, .int v2, .int v3, .int v4, .int v5, .int (v6 + 1), .null, .null] [] μ) ∧ (¬ v3 ≤ v7 → ∃ Q4 : Option Value → m2M → Prop, m2_MT D yX1_lay cX1_lay 4 none [.ref kF, .int v6, .int v7, .int v4] μ Q4 ∧ ∀ (μ3 : m2M), Q4 none μ3 → (∃ Q9 : Option Value → m2M → Prop, m2_MT D yX1_greatest cX1_greatest 6 (some .int) [.ref kF, .int v1, .int v2] μ3 Q9 ∧ ∀ (y7 : Int32) (μ8 : m2M), Q9 (some (.int y7)) μ8 → ((y7 ≤ v5 → κ 63 [.ref kC, .int v1, .int v2, .int v3, .int v4, .int v5, .int v6, .int (v7 + 1), .null] [] μ8) ∧ (¬ y7 ≤ v5 → ∃ Q15 : Option Value → m2M → Prop, m2_MT D yX11_tell cX11_tell 3 none [.ref kC, .long (v6).toInt64] (m2_si μ8 kC 3 0) Q15 ∧ ∀ (μ14 : m2M), Q15 none μ14 → (∃ Q20 : Option Value → m2M → Prop, m2_MT D yX11_tell cX11_tell 3 none [.ref kC, .long (v7).toInt64] μ14 Q20 ∧ ∀ (μ19 : m2M), Q20 none μ19 → (κ 63 [.ref kC, .int v1, .int v2, .int v3, .int v4, .int y7, .int v6, .int (v7 + 1), .null] [] μ19))))))) : κ 63 [.ref kC, .int v1, .int v2, .int v3, .int v4, .int v5, .int v6, .int v7, .null] [] μ := by
  have hB := h.b
  refine m2_iload hB dX11_build_63 rfl ?_
  refine m2_iload_n hB dX11_build_65 rfl ?_
  refine m2_icmp_ge hB dX11_build_66 (tgt := 129) (by decide) (fun q1 : v3 ≤ v7 => ?_) (fun q1 : ¬ v3 ≤ v7 => ?_)
  · replace k := k.1 q1
    refine m2_iinc hB (ls' := [.ref kC, .int v1, .int v2, .int v3, .int v4, .int v5, .int (v6 + 1), .int v7, .null]) (v := (v6 + 1)) dX11_build_129 rfl (by decide) rfl rfl ?_
    refine m2_goto hB dX11_build_132 (tgt := 51) (by decide) ?_
    exact m2_weak (ls' := [.ref kC, .int v1, .int v2, .int v3, .int v4, .int v5, .int (v6 + 1), .null, .null]) hB ⟨Or.inr rfl, Or.inr rfl, Or.inr rfl, Or.inr rfl, Or.inr rfl, Or.inr rfl, Or.inr rfl, Or.inl rfl, Or.inl rfl, trivial⟩ k
  · replace k := k.2 q1
    refine m2_aload_n hB dX11_build_69 rfl ?_
    refine m2_getR hB dX11_build_70 fl_X11_80 sh_kC (c1 := kF) rfl ?_
    refine m2_iload hB dX11_build_73 rfl ?_
    refine m2_iload hB dX11_build_75 rfl ?_
    refine m2_iload hB dX11_build_77 rfl ?_
    obtain ⟨Q4, hM5, k⟩ := k
    refine m2_invv hB (as := [.int v6, .int v7, .int v4]) dX11_build_79 mv_X11_307 rfl sh_kF rfl (Nat.le_of_ble_eq_true rfl) rfl hM5 (fun μ3 hq6 => ?_)
    replace k := k μ3 hq6
    refine m2_aload_n hB dX11_build_82 rfl ?_
    refine m2_getR hB dX11_build_83 fl_X11_80 sh_kC (c1 := kF) rfl ?_
    refine m2_iload_n hB dX11_build_86 rfl ?_
    refine m2_iload_n hB dX11_build_87 rfl ?_
    obtain ⟨Q9, hM10, k⟩ := k
    refine m2_invi hB (as := [.int v1, .int v2]) dX11_build_88 mv_X11_294 rfl sh_kF rfl (Nat.le_of_ble_eq_true rfl) rfl hM10 (fun y7 μ8 hq11 => ?_)
    replace k := k y7 μ8 hq11
    refine m2_istore hB (ls' := [.ref kC, .int v1, .int v2, .int v3, .int v4, .int v5, .int v6, .int v7, .int y7]) dX11_build_91 (by decide) rfl ?_
    refine m2_iload hB dX11_build_93 rfl ?_
    refine m2_iload hB dX11_build_95 rfl ?_
    refine m2_icmp_le hB dX11_build_97 (tgt := 123) (by decide) (fun q12 : y7 ≤ v5 => ?_) (fun q12 : ¬ y7 ≤ v5 => ?_)
    · replace k := k.1 q12
      refine m2_iinc hB (ls' := [.ref kC, .int v1, .int v2, .int v3, .int v4, .int v5, .int v6, .int (v7 + 1), .int y7]) (v := (v7 + 1)) dX11_build_123 rfl (by decide) rfl rfl ?_
      refine m2_goto hB dX11_build_126 (tgt := 63) (by decide) ?_
      exact m2_weak (ls' := [.ref kC, .int v1, .int v2, .int v3, .int v4, .int v5, .int v6, .int (v7 + 1), .null]) hB ⟨Or.inr rfl, Or.inr rfl, Or.inr rfl, Or.inr rfl, Or.inr rfl, Or.inr rfl, Or.inr rfl, Or.inr rfl, Or.inl rfl, trivial⟩ k
    · replace k := k.2 q12
      refine m2_iload hB dX11_build_100 rfl ?_
      refine m2_istore hB (ls' := [.ref kC, .int v1, .int v2, .int v3, .int v4, .int y7, .int v6, .int v7, .int y7]) dX11_build_102 (by decide) rfl ?_
      refine m2_aload_n hB dX11_build_104 rfl ?_
      refine m2_iconst hB dX11_build_105 (v := 0) (by decide) ?_
      refine m2_putI hB dX11_build_106 fl_X11_240 sh_kC rfl ?_
      refine m2_aload_n hB dX11_build_109 rfl ?_
      refine m2_iload hB dX11_build_110 rfl ?_
      refine m2_i2l hB dX11_build_112 ?_
      obtain ⟨Q15, hM16, k⟩ := k
      refine m2_invv hB (as := [.long (v6).toInt64]) dX11_build_113 mv_X11_269 rfl sh_kC rfl (Nat.le_of_ble_eq_true rfl) rfl hM16 (fun μ14 hq17 => ?_)
      replace k := k μ14 hq17
      refine m2_aload_n hB dX11_build_116 rfl ?_
      refine m2_iload hB dX11_build_117 rfl ?_
      refine m2_i2l hB dX11_build_119 ?_
      obtain ⟨Q20, hM21, k⟩ := k
      refine m2_invv hB (as := [.long (v7).toInt64]) dX11_build_120 mv_X11_269 rfl sh_kC rfl (Nat.le_of_ble_eq_true rfl) rfl hM21 (fun μ19 hq22 => ?_)
      replace k := k μ19 hq22
      refine m2_iinc hB (ls' := [.ref kC, .int v1, .int v2, .int v3, .int v4, .int y7, .int v6, .int (v7 + 1), .int y7]) (v := (v7 + 1)) dX11_build_123 rfl (by decide) rfl rfl ?_
      refine m2_goto hB dX11_build_126 (tgt := 63) (by decide) ?_
      exact m2_weak (ls' := [.ref kC, .int v1, .int v2, .int v3, .int v4, .int y7, .int v6, .int (v7 + 1), .null]) hB ⟨Or.inr rfl, Or.inr rfl, Or.inr rfl, Or.inr rfl, Or.inr rfl, Or.inr rfl, Or.inr rfl, Or.inr rfl, Or.inl rfl, trivial⟩ k
theorem dX11_never_0 : decode cX11_never 0 = .ok (.iload_n 1, 1) := by decide +kernel
theorem dX11_never_1 : decode cX11_never 1 = .ok (.iload_n 2, 1) := by decide +kernel
theorem dX11_never_2 : decode cX11_never 2 = .ok (.invokestatic 287, 3) := by decide +kernel
theorem dX11_never_5 : decode cX11_never 5 = .ok (.ifCond .eq 13, 3) := by decide +kernel
theorem dX11_never_8 : decode cX11_never 8 = .ok (.iload_n 3, 1) := by decide +kernel
theorem dX11_never_9 : decode cX11_never 9 = .ok (.ifCond .lt 9, 3) := by decide +kernel
theorem dX11_never_12 : decode cX11_never 12 = .ok (.iload_n 3, 1) := by decide +kernel
theorem dX11_never_13 : decode cX11_never 13 = .ok (.bipush 99, 2) := by decide +kernel
theorem dX11_never_15 : decode cX11_never 15 = .ok (.if_icmp .le 5, 3) := by decide +kernel
theorem dX11_never_18 : decode cX11_never 18 = .ok (.iconst (-1), 1) := by decide +kernel
theorem dX11_never_19 : decode cX11_never 19 = .ok (.ireturn, 1) := by decide +kernel
theorem dX11_never_20 : decode cX11_never 20 = .ok (.iload_n 3, 1) := by decide +kernel
theorem dX11_never_21 : decode cX11_never 21 = .ok (.ifCond .ne 5, 3) := by decide +kernel
theorem dX11_never_24 : decode cX11_never 24 = .ok (.iconst 0, 1) := by decide +kernel
theorem dX11_never_25 : decode cX11_never 25 = .ok (.ireturn, 1) := by decide +kernel
theorem dX11_never_26 : decode cX11_never 26 = .ok (.aload_n 0, 1) := by decide +kernel
theorem dX11_never_27 : decode cX11_never 27 = .ok (.getfield 80, 3) := by decide +kernel
theorem dX11_never_30 : decode cX11_never 30 = .ok (.aload_n 0, 1) := by decide +kernel
theorem dX11_never_31 : decode cX11_never 31 = .ok (.getfield 39, 3) := by decide +kernel
theorem dX11_never_34 : decode cX11_never 34 = .ok (.invokevirtual 291, 3) := by decide +kernel
theorem dX11_never_37 : decode cX11_never 37 = .ok (.aload_n 0, 1) := by decide +kernel
theorem dX11_never_38 : decode cX11_never 38 = .ok (.getfield 80, 3) := by decide +kernel
theorem dX11_never_41 : decode cX11_never 41 = .ok (.getfield 300, 3) := by decide +kernel
theorem dX11_never_44 : decode cX11_never 44 = .ok (.iconst 1, 1) := by decide +kernel
theorem dX11_never_45 : decode cX11_never 45 = .ok (.invokestatic 311, 3) := by decide +kernel
theorem dX11_never_48 : decode cX11_never 48 = .ok (.aload_n 0, 1) := by decide +kernel
theorem dX11_never_49 : decode cX11_never 49 = .ok (.getfield 80, 3) := by decide +kernel
theorem dX11_never_52 : decode cX11_never 52 = .ok (.iload_n 1, 1) := by decide +kernel
theorem dX11_never_53 : decode cX11_never 53 = .ok (.iload_n 2, 1) := by decide +kernel
theorem dX11_never_54 : decode cX11_never 54 = .ok (.invokevirtual 294, 3) := by decide +kernel
theorem dX11_never_57 : decode cX11_never 57 = .ok (.istore 4, 2) := by decide +kernel
theorem dX11_never_59 : decode cX11_never 59 = .ok (.iload 4, 2) := by decide +kernel
theorem dX11_never_61 : decode cX11_never 61 = .ok (.ifCond .gt 6, 3) := by decide +kernel
theorem dX11_never_64 : decode cX11_never 64 = .ok (.bipush (-2), 2) := by decide +kernel
theorem dX11_never_66 : decode cX11_never 66 = .ok (.ireturn, 1) := by decide +kernel
theorem dX11_never_67 : decode cX11_never 67 = .ok (.iload_n 3, 1) := by decide +kernel
theorem dX11_never_68 : decode cX11_never 68 = .ok (.iload 4, 2) := by decide +kernel
theorem dX11_never_70 : decode cX11_never 70 = .ok (.iadd, 1) := by decide +kernel
theorem dX11_never_71 : decode cX11_never 71 = .ok (.iconst 1, 1) := by decide +kernel
theorem dX11_never_72 : decode cX11_never 72 = .ok (.isub, 1) := by decide +kernel
theorem dX11_never_73 : decode cX11_never 73 = .ok (.iload 4, 2) := by decide +kernel
theorem dX11_never_75 : decode cX11_never 75 = .ok (.idiv, 1) := by decide +kernel
theorem dX11_never_76 : decode cX11_never 76 = .ok (.istore 5, 2) := by decide +kernel
theorem dX11_never_78 : decode cX11_never 78 = .ok (.iload 5, 2) := by decide +kernel
theorem dX11_never_80 : decode cX11_never 80 = .ok (.bipush 60, 2) := by decide +kernel
theorem dX11_never_82 : decode cX11_never 82 = .ok (.if_icmp .gt 8, 3) := by decide +kernel
theorem dX11_never_85 : decode cX11_never 85 = .ok (.iload 5, 2) := by decide +kernel
theorem dX11_never_87 : decode cX11_never 87 = .ok (.goto 5, 3) := by decide +kernel
theorem dX11_never_90 : decode cX11_never 90 = .ok (.bipush (-2), 2) := by decide +kernel
theorem dX11_never_92 : decode cX11_never 92 = .ok (.ireturn, 1) := by decide +kernel
set_option maxRecDepth 100000 in
set_option maxHeartbeats 4000000 in
theorem B_X11_never_0 {κ : Nat → List Value → List Value → m2M → Prop} {D : Nat} {Q : Option Value → m2M → Prop} (h : m2_RL κ cX11_never RX11 6 (D + 1) (some .int) Q) (hD : 1 ≤ D) {x1 : Int32} {x2 : Int32} {x3 : Int32} {μ : m2M} (k : ((fX11_areUnlikeRooms x1 x2) = 1 → (x3 < 0 → Q (some (.int (-1))) μ) ∧ (¬ x3 < 0 → (x3 ≤ 99 → (¬ x3 = 0 → ∃ Q10 : Option Value → m2M → Prop, m2_MT D yX1_load cX1_load 3 none [.ref kF, .ref kD] μ Q10 ∧ ∀ (μ9 : m2M), Q10 none μ9 → (∃ Q15 : Option Value → m2M → Prop, m2_MT D yJ7_fill_53178 cJ7_fill_53178 4 none [.ref kF_lets, .int 1] μ9 Q15 ∧ ∀ (μ14 : m2M), Q15 none μ14 → (∃ Q20 : Option Value → m2M → Prop, m2_MT D yX1_greatest cX1_greatest 6 (some .int) [.ref kF, .int x1, .int x2] μ14 Q20 ∧ ∀ (y18 : Int32) (μ19 : m2M), Q20 (some (.int y18)) μ19 → ((0 < y18 → (¬ y18 = 0) ∧ (Q (some (.int (if 60 < (((x3 + y18) - 1) / y18) then (-2) else (((x3 + y18) - 1) / y18) : Int32))) μ19)) ∧ (¬ 0 < y18 → Q (some (.int (-2))) μ19))))) ∧ (x3 = 0 → Q (some (.int 0)) μ)) ∧ (¬ x3 ≤ 99 → Q (some (.int (-1))) μ))) ∧ (¬ (fX11_areUnlikeRooms x1 x2) = 1 → Q (some (.int (-1))) μ)) : κ 0 [.ref kC, .int x1, .int x2, .int x3, .null, .null] [] μ := by
  have hB := h.b
  refine m2_iload_n hB dX11_never_0 rfl ?_
  refine m2_iload_n hB dX11_never_1 rfl ?_
  refine m2_invSz hB (as := [.int x1, .int x2]) dX11_never_2 ms_X11_287 rfl (Nat.le_of_ble_eq_true rfl) rfl (P_X11_areUnlikeRooms (by omega) (x1) (x2) _ ) (fun y1 μ2 hq3 => ?_)
  obtain ⟨⟨⟩, hq3⟩ := hq3
  subst μ2
  show κ 5 [.ref kC, .int x1, .int x2, .int x3, .null, .null] [.int (if (fX11_areUnlikeRooms x1 x2) = 1 then 1 else 0 : Int32)] μ
  by_cases q4 : (fX11_areUnlikeRooms x1 x2) = 1
  · rw [if_pos q4]
    replace k := k.1 q4
    refine m2_if_eq hB dX11_never_5 (tgt := 18) (by decide) (fun q => absurd q (by decide)) (fun _ => ?_)
    refine m2_iload_n hB dX11_never_8 rfl ?_
    refine m2_if_lt hB dX11_never_9 (tgt := 18) (by decide) (fun q5 : x3 < 0 => ?_) (fun q5 : ¬ x3 < 0 => ?_)
    · replace k := k.1 q5
      refine m2_iconst hB dX11_never_18 (v := (-1)) (by decide) ?_
      exact m2_iret h dX11_never_19 k
    · replace k := k.2 q5
      refine m2_iload_n hB dX11_never_12 rfl ?_
      refine m2_bipush hB dX11_never_13 (v := 99) (by decide) ?_
      refine m2_icmp_le hB dX11_never_15 (tgt := 20) (by decide) (fun q6 : x3 ≤ 99 => ?_) (fun q6 : ¬ x3 ≤ 99 => ?_)
      · replace k := k.1 q6
        refine m2_iload_n hB dX11_never_20 rfl ?_
        refine m2_if_ne hB dX11_never_21 (tgt := 26) (by decide) (fun q7 : ¬ x3 = 0 => ?_) (fun q7 : x3 = 0 => ?_)
        · replace k := k.1 q7
          refine m2_aload_n hB dX11_never_26 rfl ?_
          refine m2_getR hB dX11_never_27 fl_X11_80 sh_kC (c1 := kF) rfl ?_
          refine m2_aload_n hB dX11_never_30 rfl ?_
          refine m2_getR hB dX11_never_31 fl_X11_39 sh_kC (c1 := kD) rfl ?_
          obtain ⟨Q10, hM11, k⟩ := k
          refine m2_invv hB (as := [.ref kD]) dX11_never_34 mv_X11_291 rfl sh_kF rfl (Nat.le_of_ble_eq_true rfl) rfl hM11 (fun μ9 hq12 => ?_)
          replace k := k μ9 hq12
          refine m2_aload_n hB dX11_never_37 rfl ?_
          refine m2_getR hB dX11_never_38 fl_X11_80 sh_kC (c1 := kF) rfl ?_
          refine m2_getR hB dX11_never_41 fl_X11_300 sh_kF (c1 := kF_lets) rfl ?_
          refine m2_iconst hB dX11_never_44 (v := 1) (by decide) ?_
          obtain ⟨Q15, hM16, k⟩ := k
          refine m2_invSv hB (as := [.ref kF_lets, .int 1]) dX11_never_45 ms_X11_311 rfl (Nat.le_of_ble_eq_true rfl) rfl hM16 (fun μ14 hq17 => ?_)
          replace k := k μ14 hq17
          refine m2_aload_n hB dX11_never_48 rfl ?_
          refine m2_getR hB dX11_never_49 fl_X11_80 sh_kC (c1 := kF) rfl ?_
          refine m2_iload_n hB dX11_never_52 rfl ?_
          refine m2_iload_n hB dX11_never_53 rfl ?_
          obtain ⟨Q20, hM21, k⟩ := k
          refine m2_invi hB (as := [.int x1, .int x2]) dX11_never_54 mv_X11_294 rfl sh_kF rfl (Nat.le_of_ble_eq_true rfl) rfl hM21 (fun y18 μ19 hq22 => ?_)
          replace k := k y18 μ19 hq22
          refine m2_istore hB (ls' := [.ref kC, .int x1, .int x2, .int x3, .int y18, .null]) dX11_never_57 (by decide) rfl ?_
          refine m2_iload hB dX11_never_59 rfl ?_
          refine m2_if_gt hB dX11_never_61 (tgt := 67) (by decide) (fun q23 : 0 < y18 => ?_) (fun q23 : ¬ 0 < y18 => ?_)
          · replace k := k.1 q23
            refine m2_iload_n hB dX11_never_67 rfl ?_
            refine m2_iload hB dX11_never_68 rfl ?_
            refine m2_iadd hB dX11_never_70 ?_
            refine m2_iconst hB dX11_never_71 (v := 1) (by decide) ?_
            refine m2_isub hB dX11_never_72 ?_
            refine m2_iload hB dX11_never_73 rfl ?_
            obtain ⟨hz24, k⟩ := k
            refine m2_idiv hB dX11_never_75 hz24 ?_
            refine m2_istore hB (ls' := [.ref kC, .int x1, .int x2, .int x3, .int y18, .int (((x3 + y18) - 1) / y18)]) dX11_never_76 (by decide) rfl ?_
            refine m2_iload hB dX11_never_78 rfl ?_
            refine m2_bipush hB dX11_never_80 (v := 60) (by decide) ?_
            have G26 : κ 92 [.ref kC, .int x1, .int x2, .int x3, .int y18, .int (((x3 + y18) - 1) / y18)] [.int (if 60 < (((x3 + y18) - 1) / y18) then (-2) else (((x3 + y18) - 1) / y18) : Int32)] μ19 := by
              exact m2_iret h dX11_never_92 k
            refine m2_icmp_gt hB dX11_never_82 (tgt := 90) (by decide) (fun q25 : 60 < (((x3 + y18) - 1) / y18) => ?_) (fun q25 : ¬ 60 < (((x3 + y18) - 1) / y18) => ?_)
            · rw [if_pos q25] at G26
              refine m2_bipush hB dX11_never_90 (v := (-2)) (by decide) ?_
              exact G26
            · rw [if_neg q25] at G26
              refine m2_iload hB dX11_never_85 rfl ?_
              refine m2_goto hB dX11_never_87 (tgt := 92) (by decide) ?_
              exact G26
          · replace k := k.2 q23
            refine m2_bipush hB dX11_never_64 (v := (-2)) (by decide) ?_
            exact m2_iret h dX11_never_66 k
        · replace k := k.2 q7
          refine m2_iconst hB dX11_never_24 (v := 0) (by decide) ?_
          exact m2_iret h dX11_never_25 k
      · replace k := k.2 q6
        refine m2_iconst hB dX11_never_18 (v := (-1)) (by decide) ?_
        exact m2_iret h dX11_never_19 k
  · rw [if_neg q4]
    replace k := k.2 q4
    refine m2_if_eq hB dX11_never_5 (tgt := 18) (by decide) (fun _ => ?_) (fun q => absurd q (by decide))
    refine m2_iconst hB dX11_never_18 (v := (-1)) (by decide) ?_
    exact m2_iret h dX11_never_19 k
theorem dX11_home_0 : decode cX11_home 0 = .ok (.iload_n 1, 1) := by decide +kernel
theorem dX11_home_1 : decode cX11_home 1 = .ok (.invokestatic 219, 3) := by decide +kernel
theorem dX11_home_4 : decode cX11_home 4 = .ok (.ifCond .eq 13, 3) := by decide +kernel
theorem dX11_home_7 : decode cX11_home 7 = .ok (.aload_n 0, 1) := by decide +kernel
theorem dX11_home_8 : decode cX11_home 8 = .ok (.iconst 1, 1) := by decide +kernel
theorem dX11_home_9 : decode cX11_home 9 = .ok (.iload_n 1, 1) := by decide +kernel
theorem dX11_home_10 : decode cX11_home 10 = .ok (.ishl, 1) := by decide +kernel
theorem dX11_home_11 : decode cX11_home 11 = .ok (.invokevirtual 317, 3) := by decide +kernel
theorem dX11_home_14 : decode cX11_home 14 = .ok (.goto 4, 3) := by decide +kernel
theorem dX11_home_17 : decode cX11_home 17 = .ok (.iconst (-1), 1) := by decide +kernel
theorem dX11_home_18 : decode cX11_home 18 = .ok (.ireturn, 1) := by decide +kernel
set_option maxRecDepth 100000 in
set_option maxHeartbeats 4000000 in
theorem B_X11_home_0 {κ : Nat → List Value → List Value → m2M → Prop} {D : Nat} {Q : Option Value → m2M → Prop} (h : m2_RL κ cX11_home RX11 2 (D + 1) (some .int) Q) (hD : 0 ≤ D) {x1 : Int32} {μ : m2M} (k : ((fX11_isRoom x1) = 1 → ∃ Q7 : Option Value → m2M → Prop, m2_MT D yX11_tellRescued cX11_tellRescued 4 (some .int) [.ref kC, .int ((1 : Int32) <<< (x1 &&& 31))] μ Q7 ∧ ∀ (y5 : Int32) (μ6 : m2M), Q7 (some (.int y5)) μ6 → (Q (some (.int y5)) μ6)) ∧ (¬ (fX11_isRoom x1) = 1 → Q (some (.int (-1))) μ)) : κ 0 [.ref kC, .int x1] [] μ := by
  have hB := h.b
  refine m2_iload_n hB dX11_home_0 rfl ?_
  refine m2_invSz hB (as := [.int x1]) dX11_home_1 ms_X11_219 rfl (Nat.le_of_ble_eq_true rfl) rfl (P_X11_isRoom (by omega) (x1) _ ) (fun y1 μ2 hq3 => ?_)
  obtain ⟨⟨⟩, hq3⟩ := hq3
  subst μ2
  show κ 4 [.ref kC, .int x1] [.int (if (fX11_isRoom x1) = 1 then 1 else 0 : Int32)] μ
  by_cases q4 : (fX11_isRoom x1) = 1
  · rw [if_pos q4]
    replace k := k.1 q4
    refine m2_if_eq hB dX11_home_4 (tgt := 17) (by decide) (fun q => absurd q (by decide)) (fun _ => ?_)
    refine m2_aload_n hB dX11_home_7 rfl ?_
    refine m2_iconst hB dX11_home_8 (v := 1) (by decide) ?_
    refine m2_iload_n hB dX11_home_9 rfl ?_
    refine m2_ishl hB dX11_home_10 ?_
    obtain ⟨Q7, hM8, k⟩ := k
    refine m2_invi hB (as := [.int ((1 : Int32) <<< (x1 &&& 31))]) dX11_home_11 mv_X11_317 rfl sh_kC rfl (Nat.le_of_ble_eq_true rfl) rfl hM8 (fun y5 μ6 hq9 => ?_)
    replace k := k y5 μ6 hq9
    refine m2_goto hB dX11_home_14 (tgt := 18) (by decide) ?_
    exact m2_iret h dX11_home_18 k
  · rw [if_neg q4]
    replace k := k.2 q4
    refine m2_if_eq hB dX11_home_4 (tgt := 17) (by decide) (fun _ => ?_) (fun q => absurd q (by decide))
    refine m2_iconst hB dX11_home_17 (v := (-1)) (by decide) ?_
    exact m2_iret h dX11_home_18 k
theorem dX11_fire_0 : decode cX11_fire 0 = .ok (.iload_n 1, 1) := by decide +kernel
theorem dX11_fire_1 : decode cX11_fire 1 = .ok (.iconst 1, 1) := by decide +kernel
theorem dX11_fire_2 : decode cX11_fire 2 = .ok (.if_icmp .lt 18, 3) := by decide +kernel
theorem dX11_fire_5 : decode cX11_fire 5 = .ok (.iload_n 1, 1) := by decide +kernel
theorem dX11_fire_6 : decode cX11_fire 6 = .ok (.sipush 4095, 3) := by decide +kernel
theorem dX11_fire_9 : decode cX11_fire 9 = .ok (.if_icmp .gt 11, 3) := by decide +kernel
theorem dX11_fire_12 : decode cX11_fire 12 = .ok (.aload_n 0, 1) := by decide +kernel
theorem dX11_fire_13 : decode cX11_fire 13 = .ok (.iload_n 1, 1) := by decide +kernel
theorem dX11_fire_14 : decode cX11_fire 14 = .ok (.invokevirtual 317, 3) := by decide +kernel
theorem dX11_fire_17 : decode cX11_fire 17 = .ok (.goto 4, 3) := by decide +kernel
theorem dX11_fire_20 : decode cX11_fire 20 = .ok (.iconst (-1), 1) := by decide +kernel
theorem dX11_fire_21 : decode cX11_fire 21 = .ok (.ireturn, 1) := by decide +kernel
set_option maxRecDepth 100000 in
set_option maxHeartbeats 4000000 in
theorem B_X11_fire_0 {κ : Nat → List Value → List Value → m2M → Prop} {D : Nat} {Q : Option Value → m2M → Prop} (h : m2_RL κ cX11_fire RX11 2 (D + 1) (some .int) Q) {x1 : Int32} {μ : m2M} (k : (x1 < 1 → Q (some (.int (-1))) μ) ∧ (¬ x1 < 1 → (4095 < x1 → Q (some (.int (-1))) μ) ∧ (¬ 4095 < x1 → ∃ Q5 : Option Value → m2M → Prop, m2_MT D yX11_tellRescued cX11_tellRescued 4 (some .int) [.ref kC, .int x1] μ Q5 ∧ ∀ (y3 : Int32) (μ4 : m2M), Q5 (some (.int y3)) μ4 → (Q (some (.int y3)) μ4)))) : κ 0 [.ref kC, .int x1] [] μ := by
  have hB := h.b
  refine m2_iload_n hB dX11_fire_0 rfl ?_
  refine m2_iconst hB dX11_fire_1 (v := 1) (by decide) ?_
  refine m2_icmp_lt hB dX11_fire_2 (tgt := 20) (by decide) (fun q1 : x1 < 1 => ?_) (fun q1 : ¬ x1 < 1 => ?_)
  · replace k := k.1 q1
    refine m2_iconst hB dX11_fire_20 (v := (-1)) (by decide) ?_
    exact m2_iret h dX11_fire_21 k
  · replace k := k.2 q1
    refine m2_iload_n hB dX11_fire_5 rfl ?_
    refine m2_sipush hB dX11_fire_6 (v := 4095) (by decide) ?_
    refine m2_icmp_gt hB dX11_fire_9 (tgt := 20) (by decide) (fun q2 : 4095 < x1 => ?_) (fun q2 : ¬ 4095 < x1 => ?_)
    · replace k := k.1 q2
      refine m2_iconst hB dX11_fire_20 (v := (-1)) (by decide) ?_
      exact m2_iret h dX11_fire_21 k
    · replace k := k.2 q2
      refine m2_aload_n hB dX11_fire_12 rfl ?_
      refine m2_iload_n hB dX11_fire_13 rfl ?_
      obtain ⟨Q5, hM6, k⟩ := k
      refine m2_invi hB (as := [.int x1]) dX11_fire_14 mv_X11_317 rfl sh_kC rfl (Nat.le_of_ble_eq_true rfl) rfl hM6 (fun y3 μ4 hq7 => ?_)
      replace k := k y3 μ4 hq7
      refine m2_goto hB dX11_fire_17 (tgt := 21) (by decide) ?_
      exact m2_iret h dX11_fire_21 k
theorem dX11_late_0 : decode cX11_late 0 = .ok (.iload_n 1, 1) := by decide +kernel
theorem dX11_late_1 : decode cX11_late 1 = .ok (.invokestatic 219, 3) := by decide +kernel
theorem dX11_late_4 : decode cX11_late 4 = .ok (.ifCond .eq 14, 3) := by decide +kernel
theorem dX11_late_7 : decode cX11_late 7 = .ok (.aload_n 0, 1) := by decide +kernel
theorem dX11_late_8 : decode cX11_late 8 = .ok (.getfield 89, 3) := by decide +kernel
theorem dX11_late_11 : decode cX11_late 11 = .ok (.iload_n 1, 1) := by decide +kernel
theorem dX11_late_12 : decode cX11_late 12 = .ok (.invokevirtual 320, 3) := by decide +kernel
theorem dX11_late_15 : decode cX11_late 15 = .ok (.goto 4, 3) := by decide +kernel
theorem dX11_late_18 : decode cX11_late 18 = .ok (.iconst (-1), 1) := by decide +kernel
theorem dX11_late_19 : decode cX11_late 19 = .ok (.ireturn, 1) := by decide +kernel
set_option maxRecDepth 100000 in
set_option maxHeartbeats 4000000 in
theorem B_X11_late_0 {κ : Nat → List Value → List Value → m2M → Prop} {D : Nat} {Q : Option Value → m2M → Prop} (h : m2_RL κ cX11_late RX11 2 (D + 1) (some .int) Q) (hD : 0 ≤ D) {x1 : Int32} {μ : m2M} (k : ((fX11_isRoom x1) = 1 → ∃ Q7 : Option Value → m2M → Prop, m2_MT D yX10_shutOut cX10_shutOut 5 (some .int) [.ref kW, .int x1] μ Q7 ∧ ∀ (y5 : Int32) (μ6 : m2M), Q7 (some (.int y5)) μ6 → (Q (some (.int y5)) μ6)) ∧ (¬ (fX11_isRoom x1) = 1 → Q (some (.int (-1))) μ)) : κ 0 [.ref kC, .int x1] [] μ := by
  have hB := h.b
  refine m2_iload_n hB dX11_late_0 rfl ?_
  refine m2_invSz hB (as := [.int x1]) dX11_late_1 ms_X11_219 rfl (Nat.le_of_ble_eq_true rfl) rfl (P_X11_isRoom (by omega) (x1) _ ) (fun y1 μ2 hq3 => ?_)
  obtain ⟨⟨⟩, hq3⟩ := hq3
  subst μ2
  show κ 4 [.ref kC, .int x1] [.int (if (fX11_isRoom x1) = 1 then 1 else 0 : Int32)] μ
  by_cases q4 : (fX11_isRoom x1) = 1
  · rw [if_pos q4]
    replace k := k.1 q4
    refine m2_if_eq hB dX11_late_4 (tgt := 18) (by decide) (fun q => absurd q (by decide)) (fun _ => ?_)
    refine m2_aload_n hB dX11_late_7 rfl ?_
    refine m2_getR hB dX11_late_8 fl_X11_89 sh_kC (c1 := kW) rfl ?_
    refine m2_iload_n hB dX11_late_11 rfl ?_
    obtain ⟨Q7, hM8, k⟩ := k
    refine m2_invi hB (as := [.int x1]) dX11_late_12 mv_X11_320 rfl sh_kW rfl (Nat.le_of_ble_eq_true rfl) rfl hM8 (fun y5 μ6 hq9 => ?_)
    replace k := k y5 μ6 hq9
    refine m2_goto hB dX11_late_15 (tgt := 19) (by decide) ?_
    exact m2_iret h dX11_late_19 k
  · rw [if_neg q4]
    replace k := k.2 q4
    refine m2_if_eq hB dX11_late_4 (tgt := 18) (by decide) (fun _ => ?_) (fun q => absurd q (by decide))
    refine m2_iconst hB dX11_late_18 (v := (-1)) (by decide) ?_
    exact m2_iret h dX11_late_19 k
theorem dX11_day_0 : decode cX11_day 0 = .ok (.iload_n 1, 1) := by decide +kernel
theorem dX11_day_1 : decode cX11_day 1 = .ok (.invokestatic 234, 3) := by decide +kernel
theorem dX11_day_4 : decode cX11_day 4 = .ok (.ifCond .ne 5, 3) := by decide +kernel
theorem dX11_day_7 : decode cX11_day 7 = .ok (.iconst (-1), 1) := by decide +kernel
theorem dX11_day_8 : decode cX11_day 8 = .ok (.ireturn, 1) := by decide +kernel
theorem dX11_day_9 : decode cX11_day 9 = .ok (.aload_n 0, 1) := by decide +kernel
theorem dX11_day_10 : decode cX11_day 10 = .ok (.getfield 89, 3) := by decide +kernel
theorem dX11_day_13 : decode cX11_day 13 = .ok (.iload_n 1, 1) := by decide +kernel
theorem dX11_day_14 : decode cX11_day 14 = .ok (.iconst (-1), 1) := by decide +kernel
theorem dX11_day_15 : decode cX11_day 15 = .ok (.invokevirtual 323, 3) := by decide +kernel
theorem dX11_day_18 : decode cX11_day 18 = .ok (.aload_n 0, 1) := by decide +kernel
theorem dX11_day_19 : decode cX11_day 19 = .ok (.invokevirtual 326, 3) := by decide +kernel
theorem dX11_day_22 : decode cX11_day 22 = .ok (.ireturn, 1) := by decide +kernel
set_option maxRecDepth 100000 in
set_option maxHeartbeats 4000000 in
theorem B_X11_day_0 {κ : Nat → List Value → List Value → m2M → Prop} {D : Nat} {Q : Option Value → m2M → Prop} (h : m2_RL κ cX11_day RX11 2 (D + 1) (some .int) Q) (hD : 0 ≤ D) {x1 : Int32} {μ : m2M} (k : ((fX11_isPlan x1) = 1 → ∃ Q7 : Option Value → m2M → Prop, m2_MT D yX10_run cX10_run 5 none [.ref kW, .int x1, .int (-1)] μ Q7 ∧ ∀ (μ6 : m2M), Q7 none μ6 → (∃ Q12 : Option Value → m2M → Prop, m2_MT D yX11_tellDay cX11_tellDay 1 (some .int) [.ref kC] μ6 Q12 ∧ ∀ (y10 : Int32) (μ11 : m2M), Q12 (some (.int y10)) μ11 → (Q (some (.int y10)) μ11))) ∧ (¬ (fX11_isPlan x1) = 1 → Q (some (.int (-1))) μ)) : κ 0 [.ref kC, .int x1] [] μ := by
  have hB := h.b
  refine m2_iload_n hB dX11_day_0 rfl ?_
  refine m2_invSz hB (as := [.int x1]) dX11_day_1 ms_X11_234 rfl (Nat.le_of_ble_eq_true rfl) rfl (P_X11_isPlan (by omega) (x1) _ ) (fun y1 μ2 hq3 => ?_)
  obtain ⟨⟨⟩, hq3⟩ := hq3
  subst μ2
  show κ 4 [.ref kC, .int x1] [.int (if (fX11_isPlan x1) = 1 then 1 else 0 : Int32)] μ
  by_cases q4 : (fX11_isPlan x1) = 1
  · rw [if_pos q4]
    replace k := k.1 q4
    refine m2_if_ne hB dX11_day_4 (tgt := 9) (by decide) (fun _ => ?_) (fun q => absurd q (by decide))
    refine m2_aload_n hB dX11_day_9 rfl ?_
    refine m2_getR hB dX11_day_10 fl_X11_89 sh_kC (c1 := kW) rfl ?_
    refine m2_iload_n hB dX11_day_13 rfl ?_
    refine m2_iconst hB dX11_day_14 (v := (-1)) (by decide) ?_
    obtain ⟨Q7, hM8, k⟩ := k
    refine m2_invv hB (as := [.int x1, .int (-1)]) dX11_day_15 mv_X11_323 rfl sh_kW rfl (Nat.le_of_ble_eq_true rfl) rfl hM8 (fun μ6 hq9 => ?_)
    replace k := k μ6 hq9
    refine m2_aload_n hB dX11_day_18 rfl ?_
    obtain ⟨Q12, hM13, k⟩ := k
    refine m2_invi hB (as := []) dX11_day_19 mv_X11_326 rfl sh_kC rfl (Nat.le_of_ble_eq_true rfl) rfl hM13 (fun y10 μ11 hq14 => ?_)
    replace k := k y10 μ11 hq14
    exact m2_iret h dX11_day_22 k
  · rw [if_neg q4]
    replace k := k.2 q4
    refine m2_if_ne hB dX11_day_4 (tgt := 9) (by decide) (fun q => absurd q (by decide)) (fun _ => ?_)
    refine m2_iconst hB dX11_day_7 (v := (-1)) (by decide) ?_
    exact m2_iret h dX11_day_8 k
theorem dX11_would_0 : decode cX11_would 0 = .ok (.iload_n 1, 1) := by decide +kernel
theorem dX11_would_1 : decode cX11_would 1 = .ok (.invokestatic 234, 3) := by decide +kernel
theorem dX11_would_4 : decode cX11_would 4 = .ok (.ifCond .ne 5, 3) := by decide +kernel
theorem dX11_would_7 : decode cX11_would 7 = .ok (.iconst (-1), 1) := by decide +kernel
theorem dX11_would_8 : decode cX11_would 8 = .ok (.ireturn, 1) := by decide +kernel
theorem dX11_would_9 : decode cX11_would 9 = .ok (.aload_n 0, 1) := by decide +kernel
theorem dX11_would_10 : decode cX11_would 10 = .ok (.getfield 32, 3) := by decide +kernel
theorem dX11_would_13 : decode cX11_would 13 = .ok (.iconst 3, 1) := by decide +kernel
theorem dX11_would_14 : decode cX11_would 14 = .ok (.aaload, 1) := by decide +kernel
theorem dX11_would_15 : decode cX11_would 15 = .ok (.aload_n 0, 1) := by decide +kernel
theorem dX11_would_16 : decode cX11_would 16 = .ok (.getfield 39, 3) := by decide +kernel
theorem dX11_would_19 : decode cX11_would 19 = .ok (.aload_n 0, 1) := by decide +kernel
theorem dX11_would_20 : decode cX11_would 20 = .ok (.getfield 46, 3) := by decide +kernel
theorem dX11_would_23 : decode cX11_would 23 = .ok (.invokevirtual 255, 3) := by decide +kernel
theorem dX11_would_26 : decode cX11_would 26 = .ok (.aload_n 0, 1) := by decide +kernel
theorem dX11_would_27 : decode cX11_would 27 = .ok (.getfield 89, 3) := by decide +kernel
theorem dX11_would_30 : decode cX11_would 30 = .ok (.iload_n 1, 1) := by decide +kernel
theorem dX11_would_31 : decode cX11_would 31 = .ok (.iconst (-1), 1) := by decide +kernel
theorem dX11_would_32 : decode cX11_would 32 = .ok (.invokevirtual 323, 3) := by decide +kernel
theorem dX11_would_35 : decode cX11_would 35 = .ok (.aload_n 0, 1) := by decide +kernel
theorem dX11_would_36 : decode cX11_would 36 = .ok (.invokevirtual 326, 3) := by decide +kernel
theorem dX11_would_39 : decode cX11_would 39 = .ok (.istore_n 2, 1) := by decide +kernel
theorem dX11_would_40 : decode cX11_would 40 = .ok (.aload_n 0, 1) := by decide +kernel
theorem dX11_would_41 : decode cX11_would 41 = .ok (.getfield 32, 3) := by decide +kernel
theorem dX11_would_44 : decode cX11_would 44 = .ok (.iconst 3, 1) := by decide +kernel
theorem dX11_would_45 : decode cX11_would 45 = .ok (.aaload, 1) := by decide +kernel
theorem dX11_would_46 : decode cX11_would 46 = .ok (.aload_n 0, 1) := by decide +kernel
theorem dX11_would_47 : decode cX11_would 47 = .ok (.getfield 39, 3) := by decide +kernel
theorem dX11_would_50 : decode cX11_would 50 = .ok (.aload_n 0, 1) := by decide +kernel
theorem dX11_would_51 : decode cX11_would 51 = .ok (.getfield 46, 3) := by decide +kernel
theorem dX11_would_54 : decode cX11_would 54 = .ok (.invokevirtual 262, 3) := by decide +kernel
theorem dX11_would_57 : decode cX11_would 57 = .ok (.iload_n 2, 1) := by decide +kernel
theorem dX11_would_58 : decode cX11_would 58 = .ok (.ireturn, 1) := by decide +kernel
set_option maxRecDepth 100000 in
set_option maxHeartbeats 4000000 in
theorem B_X11_would_0 {κ : Nat → List Value → List Value → m2M → Prop} {D : Nat} {Q : Option Value → m2M → Prop} (h : m2_RL κ cX11_would RX11 3 (D + 1) (some .int) Q) (hD : 0 ≤ D) {x1 : Int32} {μ : m2M} (k : ((fX11_isPlan x1) = 1 → ∃ j5 : Nat, 3 = nI j5 ∧ j5 < 4 ∧ (∃ Q9 : Option Value → m2M → Prop, m2_MT D yX3_take cX3_take 4 none [.ref (kK j5), .ref kD, .ref kP] μ Q9 ∧ ∀ (μ8 : m2M), Q9 none μ8 → (∃ Q14 : Option Value → m2M → Prop, m2_MT D yX10_run cX10_run 5 none [.ref kW, .int x1, .int (-1)] μ8 Q14 ∧ ∀ (μ13 : m2M), Q14 none μ13 → (∃ Q19 : Option Value → m2M → Prop, m2_MT D yX11_tellDay cX11_tellDay 1 (some .int) [.ref kC] μ13 Q19 ∧ ∀ (y17 : Int32) (μ18 : m2M), Q19 (some (.int y17)) μ18 → (∃ j22 : Nat, 3 = nI j22 ∧ j22 < 4 ∧ (∃ Q26 : Option Value → m2M → Prop, m2_MT D yX3_giveBack cX3_giveBack 4 none [.ref (kK j22), .ref kD, .ref kP] μ18 Q26 ∧ ∀ (μ25 : m2M), Q26 none μ25 → (Q (some (.int y17)) μ25))))))) ∧ (¬ (fX11_isPlan x1) = 1 → Q (some (.int (-1))) μ)) : κ 0 [.ref kC, .int x1, .null] [] μ := by
  have hB := h.b
  refine m2_iload_n hB dX11_would_0 rfl ?_
  refine m2_invSz hB (as := [.int x1]) dX11_would_1 ms_X11_234 rfl (Nat.le_of_ble_eq_true rfl) rfl (P_X11_isPlan (by omega) (x1) _ ) (fun y1 μ2 hq3 => ?_)
  obtain ⟨⟨⟩, hq3⟩ := hq3
  subst μ2
  show κ 4 [.ref kC, .int x1, .null] [.int (if (fX11_isPlan x1) = 1 then 1 else 0 : Int32)] μ
  by_cases q4 : (fX11_isPlan x1) = 1
  · rw [if_pos q4]
    replace k := k.1 q4
    refine m2_if_ne hB dX11_would_4 (tgt := 9) (by decide) (fun _ => ?_) (fun q => absurd q (by decide))
    refine m2_aload_n hB dX11_would_9 rfl ?_
    refine m2_getR hB dX11_would_10 fl_X11_32 sh_kC (c1 := kC_kept) rfl ?_
    refine m2_iconst hB dX11_would_13 (v := 3) (by decide) ?_
    obtain ⟨j5, e6, h_j5, k⟩ := k
    refine m2_aald hB dX11_would_14 sh_kC_kept (Or.inl rfl) (ar_kept e6 h_j5).1 (ar_kept e6 h_j5).2 ?_
    have h_j5 : j5 < 10 := by omega
    refine m2_aload_n hB dX11_would_15 rfl ?_
    refine m2_getR hB dX11_would_16 fl_X11_39 sh_kC (c1 := kD) rfl ?_
    refine m2_aload_n hB dX11_would_19 rfl ?_
    refine m2_getR hB dX11_would_20 fl_X11_46 sh_kC (c1 := kP) rfl ?_
    obtain ⟨Q9, hM10, k⟩ := k
    refine m2_invv hB (as := [.ref kD, .ref kP]) dX11_would_23 mv_X11_255 rfl (sh_kK h_j5) rfl (Nat.le_of_ble_eq_true rfl) rfl hM10 (fun μ8 hq11 => ?_)
    replace k := k μ8 hq11
    refine m2_aload_n hB dX11_would_26 rfl ?_
    refine m2_getR hB dX11_would_27 fl_X11_89 sh_kC (c1 := kW) rfl ?_
    refine m2_iload_n hB dX11_would_30 rfl ?_
    refine m2_iconst hB dX11_would_31 (v := (-1)) (by decide) ?_
    obtain ⟨Q14, hM15, k⟩ := k
    refine m2_invv hB (as := [.int x1, .int (-1)]) dX11_would_32 mv_X11_323 rfl sh_kW rfl (Nat.le_of_ble_eq_true rfl) rfl hM15 (fun μ13 hq16 => ?_)
    replace k := k μ13 hq16
    refine m2_aload_n hB dX11_would_35 rfl ?_
    obtain ⟨Q19, hM20, k⟩ := k
    refine m2_invi hB (as := []) dX11_would_36 mv_X11_326 rfl sh_kC rfl (Nat.le_of_ble_eq_true rfl) rfl hM20 (fun y17 μ18 hq21 => ?_)
    replace k := k y17 μ18 hq21
    refine m2_istore_n hB (ls' := [.ref kC, .int x1, .int y17]) dX11_would_39 rfl (by decide) rfl ?_
    refine m2_aload_n hB dX11_would_40 rfl ?_
    refine m2_getR hB dX11_would_41 fl_X11_32 sh_kC (c1 := kC_kept) rfl ?_
    refine m2_iconst hB dX11_would_44 (v := 3) (by decide) ?_
    obtain ⟨j22, e23, h_j22, k⟩ := k
    refine m2_aald hB dX11_would_45 sh_kC_kept (Or.inl rfl) (ar_kept e23 h_j22).1 (ar_kept e23 h_j22).2 ?_
    have h_j22 : j22 < 10 := by omega
    refine m2_aload_n hB dX11_would_46 rfl ?_
    refine m2_getR hB dX11_would_47 fl_X11_39 sh_kC (c1 := kD) rfl ?_
    refine m2_aload_n hB dX11_would_50 rfl ?_
    refine m2_getR hB dX11_would_51 fl_X11_46 sh_kC (c1 := kP) rfl ?_
    obtain ⟨Q26, hM27, k⟩ := k
    refine m2_invv hB (as := [.ref kD, .ref kP]) dX11_would_54 mv_X11_262 rfl (sh_kK h_j22) rfl (Nat.le_of_ble_eq_true rfl) rfl hM27 (fun μ25 hq28 => ?_)
    replace k := k μ25 hq28
    refine m2_iload_n hB dX11_would_57 rfl ?_
    exact m2_iret h dX11_would_58 k
  · rw [if_neg q4]
    replace k := k.2 q4
    refine m2_if_ne hB dX11_would_4 (tgt := 9) (by decide) (fun q => absurd q (by decide)) (fun _ => ?_)
    refine m2_iconst hB dX11_would_7 (v := (-1)) (by decide) ?_
    exact m2_iret h dX11_would_8 k
theorem dX11_plan_0 : decode cX11_plan 0 = .ok (.iconst (-1), 1) := by decide +kernel
theorem dX11_plan_1 : decode cX11_plan 1 = .ok (.istore_n 1, 1) := by decide +kernel
theorem dX11_plan_2 : decode cX11_plan 2 = .ok (.iconst 0, 1) := by decide +kernel
theorem dX11_plan_3 : decode cX11_plan 3 = .ok (.istore_n 2, 1) := by decide +kernel
theorem dX11_plan_4 : decode cX11_plan 4 = .ok (.iconst 0, 1) := by decide +kernel
theorem dX11_plan_5 : decode cX11_plan 5 = .ok (.istore_n 3, 1) := by decide +kernel
theorem dX11_plan_6 : decode cX11_plan 6 = .ok (.aload_n 0, 1) := by decide +kernel
theorem dX11_plan_7 : decode cX11_plan 7 = .ok (.getfield 32, 3) := by decide +kernel
theorem dX11_plan_10 : decode cX11_plan 10 = .ok (.iconst 3, 1) := by decide +kernel
theorem dX11_plan_11 : decode cX11_plan 11 = .ok (.aaload, 1) := by decide +kernel
theorem dX11_plan_12 : decode cX11_plan 12 = .ok (.aload_n 0, 1) := by decide +kernel
theorem dX11_plan_13 : decode cX11_plan 13 = .ok (.getfield 39, 3) := by decide +kernel
theorem dX11_plan_16 : decode cX11_plan 16 = .ok (.aload_n 0, 1) := by decide +kernel
theorem dX11_plan_17 : decode cX11_plan 17 = .ok (.getfield 46, 3) := by decide +kernel
theorem dX11_plan_20 : decode cX11_plan 20 = .ok (.invokevirtual 255, 3) := by decide +kernel
theorem dX11_plan_23 : decode cX11_plan 23 = .ok (.iconst 0, 1) := by decide +kernel
theorem dX11_plan_24 : decode cX11_plan 24 = .ok (.istore 4, 2) := by decide +kernel
theorem dX11_plan_26 : decode cX11_plan 26 = .ok (.iload 4, 2) := by decide +kernel
theorem dX11_plan_28 : decode cX11_plan 28 = .ok (.iconst 4, 1) := by decide +kernel
theorem dX11_plan_29 : decode cX11_plan 29 = .ok (.if_icmp .ge 87, 3) := by decide +kernel
theorem dX11_plan_32 : decode cX11_plan 32 = .ok (.aload_n 0, 1) := by decide +kernel
theorem dX11_plan_33 : decode cX11_plan 33 = .ok (.getfield 89, 3) := by decide +kernel
theorem dX11_plan_36 : decode cX11_plan 36 = .ok (.iload 4, 2) := by decide +kernel
theorem dX11_plan_38 : decode cX11_plan 38 = .ok (.iconst (-1), 1) := by decide +kernel
theorem dX11_plan_39 : decode cX11_plan 39 = .ok (.invokevirtual 323, 3) := by decide +kernel
theorem dX11_plan_42 : decode cX11_plan 42 = .ok (.aload_n 0, 1) := by decide +kernel
theorem dX11_plan_43 : decode cX11_plan 43 = .ok (.getfield 46, 3) := by decide +kernel
theorem dX11_plan_46 : decode cX11_plan 46 = .ok (.invokevirtual 329, 3) := by decide +kernel
theorem dX11_plan_49 : decode cX11_plan 49 = .ok (.istore 5, 2) := by decide +kernel
theorem dX11_plan_51 : decode cX11_plan 51 = .ok (.iload_n 1, 1) := by decide +kernel
theorem dX11_plan_52 : decode cX11_plan 52 = .ok (.iconst (-1), 1) := by decide +kernel
theorem dX11_plan_53 : decode cX11_plan 53 = .ok (.if_icmp .eq 26, 3) := by decide +kernel
theorem dX11_plan_56 : decode cX11_plan 56 = .ok (.iload 5, 2) := by decide +kernel
theorem dX11_plan_58 : decode cX11_plan 58 = .ok (.iload_n 2, 1) := by decide +kernel
theorem dX11_plan_59 : decode cX11_plan 59 = .ok (.if_icmp .gt 20, 3) := by decide +kernel
theorem dX11_plan_62 : decode cX11_plan 62 = .ok (.iload 5, 2) := by decide +kernel
theorem dX11_plan_64 : decode cX11_plan 64 = .ok (.iload_n 2, 1) := by decide +kernel
theorem dX11_plan_65 : decode cX11_plan 65 = .ok (.if_icmp .ne 28, 3) := by decide +kernel
theorem dX11_plan_68 : decode cX11_plan 68 = .ok (.aload_n 0, 1) := by decide +kernel
theorem dX11_plan_69 : decode cX11_plan 69 = .ok (.getfield 89, 3) := by decide +kernel
theorem dX11_plan_72 : decode cX11_plan 72 = .ok (.getfield 273, 3) := by decide +kernel
theorem dX11_plan_75 : decode cX11_plan 75 = .ok (.iload_n 3, 1) := by decide +kernel
theorem dX11_plan_76 : decode cX11_plan 76 = .ok (.if_icmp .ge 17, 3) := by decide +kernel
theorem dX11_plan_79 : decode cX11_plan 79 = .ok (.iload 4, 2) := by decide +kernel
theorem dX11_plan_81 : decode cX11_plan 81 = .ok (.istore_n 1, 1) := by decide +kernel
theorem dX11_plan_82 : decode cX11_plan 82 = .ok (.iload 5, 2) := by decide +kernel
theorem dX11_plan_84 : decode cX11_plan 84 = .ok (.istore_n 2, 1) := by decide +kernel
theorem dX11_plan_85 : decode cX11_plan 85 = .ok (.aload_n 0, 1) := by decide +kernel
theorem dX11_plan_86 : decode cX11_plan 86 = .ok (.getfield 89, 3) := by decide +kernel
theorem dX11_plan_89 : decode cX11_plan 89 = .ok (.getfield 273, 3) := by decide +kernel
theorem dX11_plan_92 : decode cX11_plan 92 = .ok (.istore_n 3, 1) := by decide +kernel
theorem dX11_plan_93 : decode cX11_plan 93 = .ok (.aload_n 0, 1) := by decide +kernel
theorem dX11_plan_94 : decode cX11_plan 94 = .ok (.getfield 32, 3) := by decide +kernel
theorem dX11_plan_97 : decode cX11_plan 97 = .ok (.iconst 3, 1) := by decide +kernel
theorem dX11_plan_98 : decode cX11_plan 98 = .ok (.aaload, 1) := by decide +kernel
theorem dX11_plan_99 : decode cX11_plan 99 = .ok (.aload_n 0, 1) := by decide +kernel
theorem dX11_plan_100 : decode cX11_plan 100 = .ok (.getfield 39, 3) := by decide +kernel
theorem dX11_plan_103 : decode cX11_plan 103 = .ok (.aload_n 0, 1) := by decide +kernel
theorem dX11_plan_104 : decode cX11_plan 104 = .ok (.getfield 46, 3) := by decide +kernel
theorem dX11_plan_107 : decode cX11_plan 107 = .ok (.invokevirtual 262, 3) := by decide +kernel
theorem dX11_plan_110 : decode cX11_plan 110 = .ok (.iinc 4 1, 3) := by decide +kernel
theorem dX11_plan_113 : decode cX11_plan 113 = .ok (.goto (-87), 3) := by decide +kernel
theorem dX11_plan_116 : decode cX11_plan 116 = .ok (.aload_n 0, 1) := by decide +kernel
theorem dX11_plan_117 : decode cX11_plan 117 = .ok (.iconst 0, 1) := by decide +kernel
theorem dX11_plan_118 : decode cX11_plan 118 = .ok (.putfield 240, 3) := by decide +kernel
theorem dX11_plan_121 : decode cX11_plan 121 = .ok (.aload_n 0, 1) := by decide +kernel
theorem dX11_plan_122 : decode cX11_plan 122 = .ok (.iload_n 2, 1) := by decide +kernel
theorem dX11_plan_123 : decode cX11_plan 123 = .ok (.i2l, 1) := by decide +kernel
theorem dX11_plan_124 : decode cX11_plan 124 = .ok (.invokevirtual 269, 3) := by decide +kernel
theorem dX11_plan_127 : decode cX11_plan 127 = .ok (.aload_n 0, 1) := by decide +kernel
theorem dX11_plan_128 : decode cX11_plan 128 = .ok (.iload_n 3, 1) := by decide +kernel
theorem dX11_plan_129 : decode cX11_plan 129 = .ok (.i2l, 1) := by decide +kernel
theorem dX11_plan_130 : decode cX11_plan 130 = .ok (.invokevirtual 269, 3) := by decide +kernel
theorem dX11_plan_133 : decode cX11_plan 133 = .ok (.iload_n 1, 1) := by decide +kernel
theorem dX11_plan_134 : decode cX11_plan 134 = .ok (.ireturn, 1) := by decide +kernel
set_option maxRecDepth 100000 in
set_option maxHeartbeats 4000000 in
theorem B_X11_plan_0 {κ : Nat → List Value → List Value → m2M → Prop} {D : Nat} {Q : Option Value → m2M → Prop} (h : m2_RL κ cX11_plan RX11 6 (D + 1) (some .int) Q)  {μ : m2M} (k : ∃ j1 : Nat, 3 = nI j1 ∧ j1 < 4 ∧ (∃ Q5 : Option Value → m2M → Prop, m2_MT D yX3_take cX3_take 4 none [.ref (kK j1), .ref kD, .ref kP] μ Q5 ∧ ∀ (μ4 : m2M), Q5 none μ4 → (κ 26 [.ref kC, .int (-1), .int 0, .int 0, .int 0, .null] [] μ4))) : κ 0 [.ref kC, .null, .null, .null, .null, .null] [] μ := by
  have hB := h.b
  refine m2_iconst hB dX11_plan_0 (v := (-1)) (by decide) ?_
  refine m2_istore_n hB (ls' := [.ref kC, .int (-1), .null, .null, .null, .null]) dX11_plan_1 rfl (by decide) rfl ?_
  refine m2_iconst hB dX11_plan_2 (v := 0) (by decide) ?_
  refine m2_istore_n hB (ls' := [.ref kC, .int (-1), .int 0, .null, .null, .null]) dX11_plan_3 rfl (by decide) rfl ?_
  refine m2_iconst hB dX11_plan_4 (v := 0) (by decide) ?_
  refine m2_istore_n hB (ls' := [.ref kC, .int (-1), .int 0, .int 0, .null, .null]) dX11_plan_5 rfl (by decide) rfl ?_
  refine m2_aload_n hB dX11_plan_6 rfl ?_
  refine m2_getR hB dX11_plan_7 fl_X11_32 sh_kC (c1 := kC_kept) rfl ?_
  refine m2_iconst hB dX11_plan_10 (v := 3) (by decide) ?_
  obtain ⟨j1, e2, h_j1, k⟩ := k
  refine m2_aald hB dX11_plan_11 sh_kC_kept (Or.inl rfl) (ar_kept e2 h_j1).1 (ar_kept e2 h_j1).2 ?_
  have h_j1 : j1 < 10 := by omega
  refine m2_aload_n hB dX11_plan_12 rfl ?_
  refine m2_getR hB dX11_plan_13 fl_X11_39 sh_kC (c1 := kD) rfl ?_
  refine m2_aload_n hB dX11_plan_16 rfl ?_
  refine m2_getR hB dX11_plan_17 fl_X11_46 sh_kC (c1 := kP) rfl ?_
  obtain ⟨Q5, hM6, k⟩ := k
  refine m2_invv hB (as := [.ref kD, .ref kP]) dX11_plan_20 mv_X11_255 rfl (sh_kK h_j1) rfl (Nat.le_of_ble_eq_true rfl) rfl hM6 (fun μ4 hq7 => ?_)
  replace k := k μ4 hq7
  refine m2_iconst hB dX11_plan_23 (v := 0) (by decide) ?_
  refine m2_istore hB (ls' := [.ref kC, .int (-1), .int 0, .int 0, .int 0, .null]) dX11_plan_24 (by decide) rfl ?_
  exact k
set_option maxRecDepth 100000 in
set_option maxHeartbeats 4000000 in
theorem B_X11_plan_26 {κ : Nat → List Value → List Value → m2M → Prop} {D : Nat} {Q : Option Value → m2M → Prop} (h : m2_RL κ cX11_plan RX11 6 (D + 1) (some .int) Q) {v1 : Int32} {v2 : Int32} {v3 : Int32} {v4 : Int32} {μ : m2M} (k : (4 ≤ v4 → ∃ Q4 : Option Value → m2M → Prop, m2_MT D yX11_tell cX11_tell 3 none [.ref kC, .long (v2).toInt64] (m2_si μ kC 3 0) Q4 ∧ ∀ (μ3 : m2M), Q4 none μ3 → (∃ Q9 : Option Value → m2M → Prop, m2_MT D yX11_tell cX11_tell 3 none [.ref kC, .long (v3).toInt64] μ3 Q9 ∧ ∀ (μ8 : m2M), Q9 none μ8 → (Q (some (.int v1)) μ8))) ∧ (¬ 4 ≤ v4 → ∃ Q14 : Option Value → m2M → Prop, m2_MT D yX10_run cX10_run 5 none [.ref kW, .int v4, .int (-1)] μ Q14 ∧ ∀ (μ13 : m2M), Q14 none μ13 → (∃ Q19 : Option Value → m2M → Prop, m2_MT D yX6_worthDone cX6_worthDone 3 (some .int) [.ref kP] μ13 Q19 ∧ ∀ (y17 : Int32) (μ18 : m2M), Q19 (some (.int y17)) μ18 → ((v1 = (-1) → ∃ j23 : Nat, 3 = nI j23 ∧ j23 < 4 ∧ (∃ Q27 : Option Value → m2M → Prop, m2_MT D yX3_giveBack cX3_giveBack 4 none [.ref (kK j23), .ref kD, .ref kP] μ18 Q27 ∧ ∀ (μ26 : m2M), Q27 none μ26 → (κ 26 [.ref kC, .int v4, .int y17, .int (μ18.1 kW 7), .int (v4 + 1), .null] [] μ26))) ∧ (¬ v1 = (-1) → (v2 < y17 → ∃ j31 : Nat, 3 = nI j31 ∧ j31 < 4 ∧ (∃ Q35 : Option Value → m2M → Prop, m2_MT D yX3_giveBack cX3_giveBack 4 none [.ref (kK j31), .ref kD, .ref kP] μ18 Q35 ∧ ∀ (μ34 : m2M), Q35 none μ34 → (κ 26 [.ref kC, .int v4, .int y17, .int (μ18.1 kW 7), .int (v4 + 1), .null] [] μ34))) ∧ (¬ v2 < y17 → (¬ y17 = v2 → ∃ j39 : Nat, 3 = nI j39 ∧ j39 < 4 ∧ (∃ Q43 : Option Value → m2M → Prop, m2_MT D yX3_giveBack cX3_giveBack 4 none [.ref (kK j39), .ref kD, .ref kP] μ18 Q43 ∧ ∀ (μ42 : m2M), Q43 none μ42 → (κ 26 [.ref kC, .int v1, .int v2, .int v3, .int (v4 + 1), .null] [] μ42))) ∧ (y17 = v2 → (v3 ≤ (μ18.1 kW 7) → ∃ j47 : Nat, 3 = nI j47 ∧ j47 < 4 ∧ (∃ Q51 : Option Value → m2M → Prop, m2_MT D yX3_giveBack cX3_giveBack 4 none [.ref (kK j47), .ref kD, .ref kP] μ18 Q51 ∧ ∀ (μ50 : m2M), Q51 none μ50 → (κ 26 [.ref kC, .int v1, .int v2, .int v3, .int (v4 + 1), .null] [] μ50))) ∧ (¬ v3 ≤ (μ18.1 kW 7) → ∃ j54 : Nat, 3 = nI j54 ∧ j54 < 4 ∧ (∃ Q58 : Option Value → m2M → Prop, m2_MT D yX3_giveBack cX3_giveBack 4 none [.ref (kK j54), .ref kD, .ref kP] μ18 Q58 ∧ ∀ (μ57 : m2M), Q58 none μ57 → (κ 26 [.ref kC, .int v4, .int y17, .int (μ18.1 kW 7), .int (v4 + 1), .null] [] μ57)))))))))) : κ 26 [.ref kC, .int v1, .int v2, .int v3, .int v4, .null] [] μ := by
  have hB := h.b
  refine m2_iload hB dX11_plan_26 rfl ?_
  refine m2_iconst hB dX11_plan_28 (v := 4) (by decide) ?_
  refine m2_icmp_ge hB dX11_plan_29 (tgt := 116) (by decide) (fun q1 : 4 ≤ v4 => ?_) (fun q1 : ¬ 4 ≤ v4 => ?_)
  · replace k := k.1 q1
    refine m2_aload_n hB dX11_plan_116 rfl ?_
    refine m2_iconst hB dX11_plan_117 (v := 0) (by decide) ?_
    refine m2_putI hB dX11_plan_118 fl_X11_240 sh_kC rfl ?_
    refine m2_aload_n hB dX11_plan_121 rfl ?_
    refine m2_iload_n hB dX11_plan_122 rfl ?_
    refine m2_i2l hB dX11_plan_123 ?_
    obtain ⟨Q4, hM5, k⟩ := k
    refine m2_invv hB (as := [.long (v2).toInt64]) dX11_plan_124 mv_X11_269 rfl sh_kC rfl (Nat.le_of_ble_eq_true rfl) rfl hM5 (fun μ3 hq6 => ?_)
    replace k := k μ3 hq6
    refine m2_aload_n hB dX11_plan_127 rfl ?_
    refine m2_iload_n hB dX11_plan_128 rfl ?_
    refine m2_i2l hB dX11_plan_129 ?_
    obtain ⟨Q9, hM10, k⟩ := k
    refine m2_invv hB (as := [.long (v3).toInt64]) dX11_plan_130 mv_X11_269 rfl sh_kC rfl (Nat.le_of_ble_eq_true rfl) rfl hM10 (fun μ8 hq11 => ?_)
    replace k := k μ8 hq11
    refine m2_iload_n hB dX11_plan_133 rfl ?_
    exact m2_iret h dX11_plan_134 k
  · replace k := k.2 q1
    refine m2_aload_n hB dX11_plan_32 rfl ?_
    refine m2_getR hB dX11_plan_33 fl_X11_89 sh_kC (c1 := kW) rfl ?_
    refine m2_iload hB dX11_plan_36 rfl ?_
    refine m2_iconst hB dX11_plan_38 (v := (-1)) (by decide) ?_
    obtain ⟨Q14, hM15, k⟩ := k
    refine m2_invv hB (as := [.int v4, .int (-1)]) dX11_plan_39 mv_X11_323 rfl sh_kW rfl (Nat.le_of_ble_eq_true rfl) rfl hM15 (fun μ13 hq16 => ?_)
    replace k := k μ13 hq16
    refine m2_aload_n hB dX11_plan_42 rfl ?_
    refine m2_getR hB dX11_plan_43 fl_X11_46 sh_kC (c1 := kP) rfl ?_
    obtain ⟨Q19, hM20, k⟩ := k
    refine m2_invi hB (as := []) dX11_plan_46 mv_X11_329 rfl sh_kP rfl (Nat.le_of_ble_eq_true rfl) rfl hM20 (fun y17 μ18 hq21 => ?_)
    replace k := k y17 μ18 hq21
    refine m2_istore hB (ls' := [.ref kC, .int v1, .int v2, .int v3, .int v4, .int y17]) dX11_plan_49 (by decide) rfl ?_
    refine m2_iload_n hB dX11_plan_51 rfl ?_
    refine m2_iconst hB dX11_plan_52 (v := (-1)) (by decide) ?_
    refine m2_icmp_eq hB dX11_plan_53 (tgt := 79) (by decide) (fun q22 : v1 = (-1) => ?_) (fun q22 : ¬ v1 = (-1) => ?_)
    · replace k := k.1 q22
      refine m2_iload hB dX11_plan_79 rfl ?_
      refine m2_istore_n hB (ls' := [.ref kC, .int v4, .int v2, .int v3, .int v4, .int y17]) dX11_plan_81 rfl (by decide) rfl ?_
      refine m2_iload hB dX11_plan_82 rfl ?_
      refine m2_istore_n hB (ls' := [.ref kC, .int v4, .int y17, .int v3, .int v4, .int y17]) dX11_plan_84 rfl (by decide) rfl ?_
      refine m2_aload_n hB dX11_plan_85 rfl ?_
      refine m2_getR hB dX11_plan_86 fl_X11_89 sh_kC (c1 := kW) rfl ?_
      refine m2_getI hB dX11_plan_89 fl_X11_273 sh_kW rfl ?_
      refine m2_istore_n hB (ls' := [.ref kC, .int v4, .int y17, .int (μ18.1 kW 7), .int v4, .int y17]) dX11_plan_92 rfl (by decide) rfl ?_
      refine m2_aload_n hB dX11_plan_93 rfl ?_
      refine m2_getR hB dX11_plan_94 fl_X11_32 sh_kC (c1 := kC_kept) rfl ?_
      refine m2_iconst hB dX11_plan_97 (v := 3) (by decide) ?_
      obtain ⟨j23, e24, h_j23, k⟩ := k
      refine m2_aald hB dX11_plan_98 sh_kC_kept (Or.inl rfl) (ar_kept e24 h_j23).1 (ar_kept e24 h_j23).2 ?_
      have h_j23 : j23 < 10 := by omega
      refine m2_aload_n hB dX11_plan_99 rfl ?_
      refine m2_getR hB dX11_plan_100 fl_X11_39 sh_kC (c1 := kD) rfl ?_
      refine m2_aload_n hB dX11_plan_103 rfl ?_
      refine m2_getR hB dX11_plan_104 fl_X11_46 sh_kC (c1 := kP) rfl ?_
      obtain ⟨Q27, hM28, k⟩ := k
      refine m2_invv hB (as := [.ref kD, .ref kP]) dX11_plan_107 mv_X11_262 rfl (sh_kK h_j23) rfl (Nat.le_of_ble_eq_true rfl) rfl hM28 (fun μ26 hq29 => ?_)
      replace k := k μ26 hq29
      refine m2_iinc hB (ls' := [.ref kC, .int v4, .int y17, .int (μ18.1 kW 7), .int (v4 + 1), .int y17]) (v := (v4 + 1)) dX11_plan_110 rfl (by decide) rfl rfl ?_
      refine m2_goto hB dX11_plan_113 (tgt := 26) (by decide) ?_
      exact m2_weak (ls' := [.ref kC, .int v4, .int y17, .int (μ18.1 kW 7), .int (v4 + 1), .null]) hB ⟨Or.inr rfl, Or.inr rfl, Or.inr rfl, Or.inr rfl, Or.inr rfl, Or.inl rfl, trivial⟩ k
    · replace k := k.2 q22
      refine m2_iload hB dX11_plan_56 rfl ?_
      refine m2_iload_n hB dX11_plan_58 rfl ?_
      refine m2_icmp_gt hB dX11_plan_59 (tgt := 79) (by decide) (fun q30 : v2 < y17 => ?_) (fun q30 : ¬ v2 < y17 => ?_)
      · replace k := k.1 q30
        refine m2_iload hB dX11_plan_79 rfl ?_
        refine m2_istore_n hB (ls' := [.ref kC, .int v4, .int v2, .int v3, .int v4, .int y17]) dX11_plan_81 rfl (by decide) rfl ?_
        refine m2_iload hB dX11_plan_82 rfl ?_
        refine m2_istore_n hB (ls' := [.ref kC, .int v4, .int y17, .int v3, .int v4, .int y17]) dX11_plan_84 rfl (by decide) rfl ?_
        refine m2_aload_n hB dX11_plan_85 rfl ?_
        refine m2_getR hB dX11_plan_86 fl_X11_89 sh_kC (c1 := kW) rfl ?_
        refine m2_getI hB dX11_plan_89 fl_X11_273 sh_kW rfl ?_
        refine m2_istore_n hB (ls' := [.ref kC, .int v4, .int y17, .int (μ18.1 kW 7), .int v4, .int y17]) dX11_plan_92 rfl (by decide) rfl ?_
        refine m2_aload_n hB dX11_plan_93 rfl ?_
        refine m2_getR hB dX11_plan_94 fl_X11_32 sh_kC (c1 := kC_kept) rfl ?_
        refine m2_iconst hB dX11_plan_97 (v := 3) (by decide) ?_
        obtain ⟨j31, e32, h_j31, k⟩ := k
        refine m2_aald hB dX11_plan_98 sh_kC_kept (Or.inl rfl) (ar_kept e32 h_j31).1 (ar_kept e32 h_j31).2 ?_
        have h_j31 : j31 < 10 := by omega
        refine m2_aload_n hB dX11_plan_99 rfl ?_
        refine m2_getR hB dX11_plan_100 fl_X11_39 sh_kC (c1 := kD) rfl ?_
        refine m2_aload_n hB dX11_plan_103 rfl ?_
        refine m2_getR hB dX11_plan_104 fl_X11_46 sh_kC (c1 := kP) rfl ?_
        obtain ⟨Q35, hM36, k⟩ := k
        refine m2_invv hB (as := [.ref kD, .ref kP]) dX11_plan_107 mv_X11_262 rfl (sh_kK h_j31) rfl (Nat.le_of_ble_eq_true rfl) rfl hM36 (fun μ34 hq37 => ?_)
        replace k := k μ34 hq37
        refine m2_iinc hB (ls' := [.ref kC, .int v4, .int y17, .int (μ18.1 kW 7), .int (v4 + 1), .int y17]) (v := (v4 + 1)) dX11_plan_110 rfl (by decide) rfl rfl ?_
        refine m2_goto hB dX11_plan_113 (tgt := 26) (by decide) ?_
        exact m2_weak (ls' := [.ref kC, .int v4, .int y17, .int (μ18.1 kW 7), .int (v4 + 1), .null]) hB ⟨Or.inr rfl, Or.inr rfl, Or.inr rfl, Or.inr rfl, Or.inr rfl, Or.inl rfl, trivial⟩ k
      · replace k := k.2 q30
        refine m2_iload hB dX11_plan_62 rfl ?_
        refine m2_iload_n hB dX11_plan_64 rfl ?_
        refine m2_icmp_ne hB dX11_plan_65 (tgt := 93) (by decide) (fun q38 : ¬ y17 = v2 => ?_) (fun q38 : y17 = v2 => ?_)
        · replace k := k.1 q38
          refine m2_aload_n hB dX11_plan_93 rfl ?_
          refine m2_getR hB dX11_plan_94 fl_X11_32 sh_kC (c1 := kC_kept) rfl ?_
          refine m2_iconst hB dX11_plan_97 (v := 3) (by decide) ?_
          obtain ⟨j39, e40, h_j39, k⟩ := k
          refine m2_aald hB dX11_plan_98 sh_kC_kept (Or.inl rfl) (ar_kept e40 h_j39).1 (ar_kept e40 h_j39).2 ?_
          have h_j39 : j39 < 10 := by omega
          refine m2_aload_n hB dX11_plan_99 rfl ?_
          refine m2_getR hB dX11_plan_100 fl_X11_39 sh_kC (c1 := kD) rfl ?_
          refine m2_aload_n hB dX11_plan_103 rfl ?_
          refine m2_getR hB dX11_plan_104 fl_X11_46 sh_kC (c1 := kP) rfl ?_
          obtain ⟨Q43, hM44, k⟩ := k
          refine m2_invv hB (as := [.ref kD, .ref kP]) dX11_plan_107 mv_X11_262 rfl (sh_kK h_j39) rfl (Nat.le_of_ble_eq_true rfl) rfl hM44 (fun μ42 hq45 => ?_)
          replace k := k μ42 hq45
          refine m2_iinc hB (ls' := [.ref kC, .int v1, .int v2, .int v3, .int (v4 + 1), .int y17]) (v := (v4 + 1)) dX11_plan_110 rfl (by decide) rfl rfl ?_
          refine m2_goto hB dX11_plan_113 (tgt := 26) (by decide) ?_
          exact m2_weak (ls' := [.ref kC, .int v1, .int v2, .int v3, .int (v4 + 1), .null]) hB ⟨Or.inr rfl, Or.inr rfl, Or.inr rfl, Or.inr rfl, Or.inr rfl, Or.inl rfl, trivial⟩ k
        · replace k := k.2 q38
          refine m2_aload_n hB dX11_plan_68 rfl ?_
          refine m2_getR hB dX11_plan_69 fl_X11_89 sh_kC (c1 := kW) rfl ?_
          refine m2_getI hB dX11_plan_72 fl_X11_273 sh_kW rfl ?_
          refine m2_iload_n hB dX11_plan_75 rfl ?_
          refine m2_icmp_ge hB dX11_plan_76 (tgt := 93) (by decide) (fun q46 : v3 ≤ (μ18.1 kW 7) => ?_) (fun q46 : ¬ v3 ≤ (μ18.1 kW 7) => ?_)
          · replace k := k.1 q46
            refine m2_aload_n hB dX11_plan_93 rfl ?_
            refine m2_getR hB dX11_plan_94 fl_X11_32 sh_kC (c1 := kC_kept) rfl ?_
            refine m2_iconst hB dX11_plan_97 (v := 3) (by decide) ?_
            obtain ⟨j47, e48, h_j47, k⟩ := k
            refine m2_aald hB dX11_plan_98 sh_kC_kept (Or.inl rfl) (ar_kept e48 h_j47).1 (ar_kept e48 h_j47).2 ?_
            have h_j47 : j47 < 10 := by omega
            refine m2_aload_n hB dX11_plan_99 rfl ?_
            refine m2_getR hB dX11_plan_100 fl_X11_39 sh_kC (c1 := kD) rfl ?_
            refine m2_aload_n hB dX11_plan_103 rfl ?_
            refine m2_getR hB dX11_plan_104 fl_X11_46 sh_kC (c1 := kP) rfl ?_
            obtain ⟨Q51, hM52, k⟩ := k
            refine m2_invv hB (as := [.ref kD, .ref kP]) dX11_plan_107 mv_X11_262 rfl (sh_kK h_j47) rfl (Nat.le_of_ble_eq_true rfl) rfl hM52 (fun μ50 hq53 => ?_)
            replace k := k μ50 hq53
            refine m2_iinc hB (ls' := [.ref kC, .int v1, .int v2, .int v3, .int (v4 + 1), .int y17]) (v := (v4 + 1)) dX11_plan_110 rfl (by decide) rfl rfl ?_
            refine m2_goto hB dX11_plan_113 (tgt := 26) (by decide) ?_
            exact m2_weak (ls' := [.ref kC, .int v1, .int v2, .int v3, .int (v4 + 1), .null]) hB ⟨Or.inr rfl, Or.inr rfl, Or.inr rfl, Or.inr rfl, Or.inr rfl, Or.inl rfl, trivial⟩ k
          · replace k := k.2 q46
            refine m2_iload hB dX11_plan_79 rfl ?_
            refine m2_istore_n hB (ls' := [.ref kC, .int v4, .int v2, .int v3, .int v4, .int y17]) dX11_plan_81 rfl (by decide) rfl ?_
            refine m2_iload hB dX11_plan_82 rfl ?_
            refine m2_istore_n hB (ls' := [.ref kC, .int v4, .int y17, .int v3, .int v4, .int y17]) dX11_plan_84 rfl (by decide) rfl ?_
            refine m2_aload_n hB dX11_plan_85 rfl ?_
            refine m2_getR hB dX11_plan_86 fl_X11_89 sh_kC (c1 := kW) rfl ?_
            refine m2_getI hB dX11_plan_89 fl_X11_273 sh_kW rfl ?_
            refine m2_istore_n hB (ls' := [.ref kC, .int v4, .int y17, .int (μ18.1 kW 7), .int v4, .int y17]) dX11_plan_92 rfl (by decide) rfl ?_
            refine m2_aload_n hB dX11_plan_93 rfl ?_
            refine m2_getR hB dX11_plan_94 fl_X11_32 sh_kC (c1 := kC_kept) rfl ?_
            refine m2_iconst hB dX11_plan_97 (v := 3) (by decide) ?_
            obtain ⟨j54, e55, h_j54, k⟩ := k
            refine m2_aald hB dX11_plan_98 sh_kC_kept (Or.inl rfl) (ar_kept e55 h_j54).1 (ar_kept e55 h_j54).2 ?_
            have h_j54 : j54 < 10 := by omega
            refine m2_aload_n hB dX11_plan_99 rfl ?_
            refine m2_getR hB dX11_plan_100 fl_X11_39 sh_kC (c1 := kD) rfl ?_
            refine m2_aload_n hB dX11_plan_103 rfl ?_
            refine m2_getR hB dX11_plan_104 fl_X11_46 sh_kC (c1 := kP) rfl ?_
            obtain ⟨Q58, hM59, k⟩ := k
            refine m2_invv hB (as := [.ref kD, .ref kP]) dX11_plan_107 mv_X11_262 rfl (sh_kK h_j54) rfl (Nat.le_of_ble_eq_true rfl) rfl hM59 (fun μ57 hq60 => ?_)
            replace k := k μ57 hq60
            refine m2_iinc hB (ls' := [.ref kC, .int v4, .int y17, .int (μ18.1 kW 7), .int (v4 + 1), .int y17]) (v := (v4 + 1)) dX11_plan_110 rfl (by decide) rfl rfl ?_
            refine m2_goto hB dX11_plan_113 (tgt := 26) (by decide) ?_
            exact m2_weak (ls' := [.ref kC, .int v4, .int y17, .int (μ18.1 kW 7), .int (v4 + 1), .null]) hB ⟨Or.inr rfl, Or.inr rfl, Or.inr rfl, Or.inr rfl, Or.inr rfl, Or.inl rfl, trivial⟩ k
theorem dX11_order_0 : decode cX11_order 0 = .ok (.iload_n 1, 1) := by decide +kernel
theorem dX11_order_1 : decode cX11_order 1 = .ok (.invokestatic 234, 3) := by decide +kernel
theorem dX11_order_4 : decode cX11_order 4 = .ok (.ifCond .ne 5, 3) := by decide +kernel
theorem dX11_order_7 : decode cX11_order 7 = .ok (.iconst (-1), 1) := by decide +kernel
theorem dX11_order_8 : decode cX11_order 8 = .ok (.ireturn, 1) := by decide +kernel
theorem dX11_order_9 : decode cX11_order 9 = .ok (.aload_n 0, 1) := by decide +kernel
theorem dX11_order_10 : decode cX11_order 10 = .ok (.getfield 46, 3) := by decide +kernel
theorem dX11_order_13 : decode cX11_order 13 = .ok (.invokevirtual 332, 3) := by decide +kernel
theorem dX11_order_16 : decode cX11_order 16 = .ok (.invokestatic 335, 3) := by decide +kernel
theorem dX11_order_19 : decode cX11_order 19 = .ok (.bipush 6, 2) := by decide +kernel
theorem dX11_order_21 : decode cX11_order 21 = .ok (.if_icmp .le 6, 3) := by decide +kernel
theorem dX11_order_24 : decode cX11_order 24 = .ok (.bipush (-3), 2) := by decide +kernel
theorem dX11_order_26 : decode cX11_order 26 = .ok (.ireturn, 1) := by decide +kernel
theorem dX11_order_27 : decode cX11_order 27 = .ok (.aload_n 0, 1) := by decide +kernel
theorem dX11_order_28 : decode cX11_order 28 = .ok (.getfield 98, 3) := by decide +kernel
theorem dX11_order_31 : decode cX11_order 31 = .ok (.iload_n 1, 1) := by decide +kernel
theorem dX11_order_32 : decode cX11_order 32 = .ok (.invokevirtual 340, 3) := by decide +kernel
theorem dX11_order_35 : decode cX11_order 35 = .ok (.aload_n 0, 1) := by decide +kernel
theorem dX11_order_36 : decode cX11_order 36 = .ok (.iconst 0, 1) := by decide +kernel
theorem dX11_order_37 : decode cX11_order 37 = .ok (.putfield 240, 3) := by decide +kernel
theorem dX11_order_40 : decode cX11_order 40 = .ok (.aload_n 0, 1) := by decide +kernel
theorem dX11_order_41 : decode cX11_order 41 = .ok (.aload_n 0, 1) := by decide +kernel
theorem dX11_order_42 : decode cX11_order 42 = .ok (.getfield 98, 3) := by decide +kernel
theorem dX11_order_45 : decode cX11_order 45 = .ok (.getfield 343, 3) := by decide +kernel
theorem dX11_order_48 : decode cX11_order 48 = .ok (.i2l, 1) := by decide +kernel
theorem dX11_order_49 : decode cX11_order 49 = .ok (.invokevirtual 269, 3) := by decide +kernel
theorem dX11_order_52 : decode cX11_order 52 = .ok (.iconst 0, 1) := by decide +kernel
theorem dX11_order_53 : decode cX11_order 53 = .ok (.istore_n 2, 1) := by decide +kernel
theorem dX11_order_54 : decode cX11_order 54 = .ok (.iload_n 2, 1) := by decide +kernel
theorem dX11_order_55 : decode cX11_order 55 = .ok (.aload_n 0, 1) := by decide +kernel
theorem dX11_order_56 : decode cX11_order 56 = .ok (.getfield 98, 3) := by decide +kernel
theorem dX11_order_59 : decode cX11_order 59 = .ok (.getfield 346, 3) := by decide +kernel
theorem dX11_order_62 : decode cX11_order 62 = .ok (.if_icmp .ge 23, 3) := by decide +kernel
theorem dX11_order_65 : decode cX11_order 65 = .ok (.aload_n 0, 1) := by decide +kernel
theorem dX11_order_66 : decode cX11_order 66 = .ok (.aload_n 0, 1) := by decide +kernel
theorem dX11_order_67 : decode cX11_order 67 = .ok (.getfield 98, 3) := by decide +kernel
theorem dX11_order_70 : decode cX11_order 70 = .ok (.getfield 347, 3) := by decide +kernel
theorem dX11_order_73 : decode cX11_order 73 = .ok (.iload_n 2, 1) := by decide +kernel
theorem dX11_order_74 : decode cX11_order 74 = .ok (.iaload, 1) := by decide +kernel
theorem dX11_order_75 : decode cX11_order 75 = .ok (.i2l, 1) := by decide +kernel
theorem dX11_order_76 : decode cX11_order 76 = .ok (.invokevirtual 269, 3) := by decide +kernel
theorem dX11_order_79 : decode cX11_order 79 = .ok (.iinc 2 1, 3) := by decide +kernel
theorem dX11_order_82 : decode cX11_order 82 = .ok (.goto (-28), 3) := by decide +kernel
theorem dX11_order_85 : decode cX11_order 85 = .ok (.aload_n 0, 1) := by decide +kernel
theorem dX11_order_86 : decode cX11_order 86 = .ok (.getfield 98, 3) := by decide +kernel
theorem dX11_order_89 : decode cX11_order 89 = .ok (.getfield 350, 3) := by decide +kernel
theorem dX11_order_92 : decode cX11_order 92 = .ok (.ireturn, 1) := by decide +kernel
set_option maxRecDepth 100000 in
set_option maxHeartbeats 4000000 in
theorem B_X11_order_0 {κ : Nat → List Value → List Value → m2M → Prop} {D : Nat} {Q : Option Value → m2M → Prop} (h : m2_RL κ cX11_order RX11 3 (D + 1) (some .int) Q) (hD : 0 ≤ D) {x1 : Int32} {μ : m2M} (k : ((fX11_isPlan x1) = 1 → ∃ Q7 : Option Value → m2M → Prop, m2_MT D yX6_busyBits cX6_busyBits 3 (some .int) [.ref kP] μ Q7 ∧ ∀ (y5 : Int32) (μ6 : m2M), Q7 (some (.int y5)) μ6 → (((fJ6_bitCount_0f7a4 y5) ≤ 6 → ∃ Q16 : Option Value → m2M → Prop, m2_MT D yX4_search cX4_search 2 none [.ref kO, .int x1] μ6 Q16 ∧ ∀ (μ15 : m2M), Q16 none μ15 → (∃ Q21 : Option Value → m2M → Prop, m2_MT D yX11_tell cX11_tell 3 none [.ref kC, .long ((μ15.1 kO 9)).toInt64] (m2_si μ15 kC 3 0) Q21 ∧ ∀ (μ20 : m2M), Q21 none μ20 → (κ 54 [.ref kC, .int x1, .int 0] [] μ20))) ∧ (¬ (fJ6_bitCount_0f7a4 y5) ≤ 6 → Q (some (.int (-3))) μ6))) ∧ (¬ (fX11_isPlan x1) = 1 → Q (some (.int (-1))) μ)) : κ 0 [.ref kC, .int x1, .null] [] μ := by
  have hB := h.b
  refine m2_iload_n hB dX11_order_0 rfl ?_
  refine m2_invSz hB (as := [.int x1]) dX11_order_1 ms_X11_234 rfl (Nat.le_of_ble_eq_true rfl) rfl (P_X11_isPlan (by omega) (x1) _ ) (fun y1 μ2 hq3 => ?_)
  obtain ⟨⟨⟩, hq3⟩ := hq3
  subst μ2
  show κ 4 [.ref kC, .int x1, .null] [.int (if (fX11_isPlan x1) = 1 then 1 else 0 : Int32)] μ
  by_cases q4 : (fX11_isPlan x1) = 1
  · rw [if_pos q4]
    replace k := k.1 q4
    refine m2_if_ne hB dX11_order_4 (tgt := 9) (by decide) (fun _ => ?_) (fun q => absurd q (by decide))
    refine m2_aload_n hB dX11_order_9 rfl ?_
    refine m2_getR hB dX11_order_10 fl_X11_46 sh_kC (c1 := kP) rfl ?_
    obtain ⟨Q7, hM8, k⟩ := k
    refine m2_invi hB (as := []) dX11_order_13 mv_X11_332 rfl sh_kP rfl (Nat.le_of_ble_eq_true rfl) rfl hM8 (fun y5 μ6 hq9 => ?_)
    replace k := k y5 μ6 hq9
    refine m2_invSi hB (as := [.int y5]) dX11_order_16 ms_X11_335 rfl (Nat.le_of_ble_eq_true rfl) rfl (P_J6_bitCount_0f7a4 (by omega) (y5) _ ) (fun y10 μ11 hq12 => ?_)
    obtain ⟨⟨⟩, hq12⟩ := hq12
    subst μ11
    refine m2_bipush hB dX11_order_19 (v := 6) (by decide) ?_
    refine m2_icmp_le hB dX11_order_21 (tgt := 27) (by decide) (fun q13 : (fJ6_bitCount_0f7a4 y5) ≤ 6 => ?_) (fun q13 : ¬ (fJ6_bitCount_0f7a4 y5) ≤ 6 => ?_)
    · replace k := k.1 q13
      refine m2_aload_n hB dX11_order_27 rfl ?_
      refine m2_getR hB dX11_order_28 fl_X11_98 sh_kC (c1 := kO) rfl ?_
      refine m2_iload_n hB dX11_order_31 rfl ?_
      obtain ⟨Q16, hM17, k⟩ := k
      refine m2_invv hB (as := [.int x1]) dX11_order_32 mv_X11_340 rfl sh_kO rfl (Nat.le_of_ble_eq_true rfl) rfl hM17 (fun μ15 hq18 => ?_)
      replace k := k μ15 hq18
      refine m2_aload_n hB dX11_order_35 rfl ?_
      refine m2_iconst hB dX11_order_36 (v := 0) (by decide) ?_
      refine m2_putI hB dX11_order_37 fl_X11_240 sh_kC rfl ?_
      refine m2_aload_n hB dX11_order_40 rfl ?_
      refine m2_aload_n hB dX11_order_41 rfl ?_
      refine m2_getR hB dX11_order_42 fl_X11_98 sh_kC (c1 := kO) rfl ?_
      refine m2_getI hB dX11_order_45 fl_X11_343 sh_kO rfl ?_
      refine m2_i2l hB dX11_order_48 ?_
      obtain ⟨Q21, hM22, k⟩ := k
      refine m2_invv hB (as := [.long ((μ15.1 kO 9)).toInt64]) dX11_order_49 mv_X11_269 rfl sh_kC rfl (Nat.le_of_ble_eq_true rfl) rfl hM22 (fun μ20 hq23 => ?_)
      replace k := k μ20 hq23
      refine m2_iconst hB dX11_order_52 (v := 0) (by decide) ?_
      refine m2_istore_n hB (ls' := [.ref kC, .int x1, .int 0]) dX11_order_53 rfl (by decide) rfl ?_
      exact k
    · replace k := k.2 q13
      refine m2_bipush hB dX11_order_24 (v := (-3)) (by decide) ?_
      exact m2_iret h dX11_order_26 k
  · rw [if_neg q4]
    replace k := k.2 q4
    refine m2_if_ne hB dX11_order_4 (tgt := 9) (by decide) (fun q => absurd q (by decide)) (fun _ => ?_)
    refine m2_iconst hB dX11_order_7 (v := (-1)) (by decide) ?_
    exact m2_iret h dX11_order_8 k
set_option maxRecDepth 100000 in
set_option maxHeartbeats 4000000 in
theorem B_X11_order_54 {κ : Nat → List Value → List Value → m2M → Prop} {D : Nat} {Q : Option Value → m2M → Prop} (h : m2_RL κ cX11_order RX11 3 (D + 1) (some .int) Q) {v1 : Int32} {v2 : Int32} {μ : m2M} (k : ((μ.1 kO 7) ≤ v2 → Q (some (.int (μ.1 kO 8))) μ) ∧ (¬ (μ.1 kO 7) ≤ v2 → (vp_in v2 6) ∧ (∃ Q6 : Option Value → m2M → Prop, m2_MT D yX11_tell cX11_tell 3 none [.ref kC, .long ((μ.1 kO_best (v2).toNatClampNeg)).toInt64] μ Q6 ∧ ∀ (μ5 : m2M), Q6 none μ5 → (κ 54 [.ref kC, .int v1, .int (v2 + 1)] [] μ5)))) : κ 54 [.ref kC, .int v1, .int v2] [] μ := by
  have hB := h.b
  refine m2_iload_n hB dX11_order_54 rfl ?_
  refine m2_aload_n hB dX11_order_55 rfl ?_
  refine m2_getR hB dX11_order_56 fl_X11_98 sh_kC (c1 := kO) rfl ?_
  refine m2_getI hB dX11_order_59 fl_X11_346 sh_kO rfl ?_
  refine m2_icmp_ge hB dX11_order_62 (tgt := 85) (by decide) (fun q2 : (μ.1 kO 7) ≤ v2 => ?_) (fun q2 : ¬ (μ.1 kO 7) ≤ v2 => ?_)
  · replace k := k.1 q2
    refine m2_aload_n hB dX11_order_85 rfl ?_
    refine m2_getR hB dX11_order_86 fl_X11_98 sh_kC (c1 := kO) rfl ?_
    refine m2_getI hB dX11_order_89 fl_X11_350 sh_kO rfl ?_
    exact m2_iret h dX11_order_92 k
  · replace k := k.2 q2
    refine m2_aload_n hB dX11_order_65 rfl ?_
    refine m2_aload_n hB dX11_order_66 rfl ?_
    refine m2_getR hB dX11_order_67 fl_X11_98 sh_kC (c1 := kO) rfl ?_
    refine m2_getR hB dX11_order_70 fl_X11_347 sh_kO (c1 := kO_best) rfl ?_
    refine m2_iload_n hB dX11_order_73 rfl ?_
    obtain ⟨hi3, k⟩ := k
    refine m2_iald hB dX11_order_74 sh_kO_best hi3 ?_
    refine m2_i2l hB dX11_order_75 ?_
    obtain ⟨Q6, hM7, k⟩ := k
    refine m2_invv hB (as := [.long ((μ.1 kO_best (v2).toNatClampNeg)).toInt64]) dX11_order_76 mv_X11_269 rfl sh_kC rfl (Nat.le_of_ble_eq_true rfl) rfl hM7 (fun μ5 hq8 => ?_)
    replace k := k μ5 hq8
    refine m2_iinc hB (ls' := [.ref kC, .int v1, .int (v2 + 1)]) (v := (v2 + 1)) dX11_order_79 rfl (by decide) rfl rfl ?_
    refine m2_goto hB dX11_order_82 (tgt := 54) (by decide) ?_
    exact k
theorem dX11_leave_0 : decode cX11_leave 0 = .ok (.iload_n 1, 1) := by decide +kernel
theorem dX11_leave_1 : decode cX11_leave 1 = .ok (.invokestatic 234, 3) := by decide +kernel
theorem dX11_leave_4 : decode cX11_leave 4 = .ok (.ifCond .ne 5, 3) := by decide +kernel
theorem dX11_leave_7 : decode cX11_leave 7 = .ok (.iconst (-1), 1) := by decide +kernel
theorem dX11_leave_8 : decode cX11_leave 8 = .ok (.ireturn, 1) := by decide +kernel
theorem dX11_leave_9 : decode cX11_leave 9 = .ok (.iconst (-1), 1) := by decide +kernel
theorem dX11_leave_10 : decode cX11_leave 10 = .ok (.istore_n 2, 1) := by decide +kernel
theorem dX11_leave_11 : decode cX11_leave 11 = .ok (.iconst 0, 1) := by decide +kernel
theorem dX11_leave_12 : decode cX11_leave 12 = .ok (.istore_n 3, 1) := by decide +kernel
theorem dX11_leave_13 : decode cX11_leave 13 = .ok (.aload_n 0, 1) := by decide +kernel
theorem dX11_leave_14 : decode cX11_leave 14 = .ok (.getfield 32, 3) := by decide +kernel
theorem dX11_leave_17 : decode cX11_leave 17 = .ok (.iconst 3, 1) := by decide +kernel
theorem dX11_leave_18 : decode cX11_leave 18 = .ok (.aaload, 1) := by decide +kernel
theorem dX11_leave_19 : decode cX11_leave 19 = .ok (.aload_n 0, 1) := by decide +kernel
theorem dX11_leave_20 : decode cX11_leave 20 = .ok (.getfield 39, 3) := by decide +kernel
theorem dX11_leave_23 : decode cX11_leave 23 = .ok (.aload_n 0, 1) := by decide +kernel
theorem dX11_leave_24 : decode cX11_leave 24 = .ok (.getfield 46, 3) := by decide +kernel
theorem dX11_leave_27 : decode cX11_leave 27 = .ok (.invokevirtual 255, 3) := by decide +kernel
theorem dX11_leave_30 : decode cX11_leave 30 = .ok (.iconst 0, 1) := by decide +kernel
theorem dX11_leave_31 : decode cX11_leave 31 = .ok (.istore 4, 2) := by decide +kernel
theorem dX11_leave_33 : decode cX11_leave 33 = .ok (.iload 4, 2) := by decide +kernel
theorem dX11_leave_35 : decode cX11_leave 35 = .ok (.aload_n 0, 1) := by decide +kernel
theorem dX11_leave_36 : decode cX11_leave 36 = .ok (.getfield 46, 3) := by decide +kernel
theorem dX11_leave_39 : decode cX11_leave 39 = .ok (.getfield 353, 3) := by decide +kernel
theorem dX11_leave_42 : decode cX11_leave 42 = .ok (.if_icmp .ge 74, 3) := by decide +kernel
theorem dX11_leave_45 : decode cX11_leave 45 = .ok (.aload_n 0, 1) := by decide +kernel
theorem dX11_leave_46 : decode cX11_leave 46 = .ok (.getfield 46, 3) := by decide +kernel
theorem dX11_leave_49 : decode cX11_leave 49 = .ok (.iload 4, 2) := by decide +kernel
theorem dX11_leave_51 : decode cX11_leave 51 = .ok (.invokevirtual 237, 3) := by decide +kernel
theorem dX11_leave_54 : decode cX11_leave 54 = .ok (.ifCond .eq 56, 3) := by decide +kernel
theorem dX11_leave_57 : decode cX11_leave 57 = .ok (.aload_n 0, 1) := by decide +kernel
theorem dX11_leave_58 : decode cX11_leave 58 = .ok (.getfield 89, 3) := by decide +kernel
theorem dX11_leave_61 : decode cX11_leave 61 = .ok (.iload_n 1, 1) := by decide +kernel
theorem dX11_leave_62 : decode cX11_leave 62 = .ok (.iload 4, 2) := by decide +kernel
theorem dX11_leave_64 : decode cX11_leave 64 = .ok (.invokevirtual 323, 3) := by decide +kernel
theorem dX11_leave_67 : decode cX11_leave 67 = .ok (.aload_n 0, 1) := by decide +kernel
theorem dX11_leave_68 : decode cX11_leave 68 = .ok (.getfield 46, 3) := by decide +kernel
theorem dX11_leave_71 : decode cX11_leave 71 = .ok (.invokevirtual 329, 3) := by decide +kernel
theorem dX11_leave_74 : decode cX11_leave 74 = .ok (.istore 5, 2) := by decide +kernel
theorem dX11_leave_76 : decode cX11_leave 76 = .ok (.iload_n 2, 1) := by decide +kernel
theorem dX11_leave_77 : decode cX11_leave 77 = .ok (.iconst (-1), 1) := by decide +kernel
theorem dX11_leave_78 : decode cX11_leave 78 = .ok (.if_icmp .eq 9, 3) := by decide +kernel
theorem dX11_leave_81 : decode cX11_leave 81 = .ok (.iload 5, 2) := by decide +kernel
theorem dX11_leave_83 : decode cX11_leave 83 = .ok (.iload_n 3, 1) := by decide +kernel
theorem dX11_leave_84 : decode cX11_leave 84 = .ok (.if_icmp .le 9, 3) := by decide +kernel
theorem dX11_leave_87 : decode cX11_leave 87 = .ok (.iload 4, 2) := by decide +kernel
theorem dX11_leave_89 : decode cX11_leave 89 = .ok (.istore_n 2, 1) := by decide +kernel
theorem dX11_leave_90 : decode cX11_leave 90 = .ok (.iload 5, 2) := by decide +kernel
theorem dX11_leave_92 : decode cX11_leave 92 = .ok (.istore_n 3, 1) := by decide +kernel
theorem dX11_leave_93 : decode cX11_leave 93 = .ok (.aload_n 0, 1) := by decide +kernel
theorem dX11_leave_94 : decode cX11_leave 94 = .ok (.getfield 32, 3) := by decide +kernel
theorem dX11_leave_97 : decode cX11_leave 97 = .ok (.iconst 3, 1) := by decide +kernel
theorem dX11_leave_98 : decode cX11_leave 98 = .ok (.aaload, 1) := by decide +kernel
theorem dX11_leave_99 : decode cX11_leave 99 = .ok (.aload_n 0, 1) := by decide +kernel
theorem dX11_leave_100 : decode cX11_leave 100 = .ok (.getfield 39, 3) := by decide +kernel
theorem dX11_leave_103 : decode cX11_leave 103 = .ok (.aload_n 0, 1) := by decide +kernel
theorem dX11_leave_104 : decode cX11_leave 104 = .ok (.getfield 46, 3) := by decide +kernel
theorem dX11_leave_107 : decode cX11_leave 107 = .ok (.invokevirtual 262, 3) := by decide +kernel
theorem dX11_leave_110 : decode cX11_leave 110 = .ok (.iinc 4 1, 3) := by decide +kernel
theorem dX11_leave_113 : decode cX11_leave 113 = .ok (.goto (-80), 3) := by decide +kernel
theorem dX11_leave_116 : decode cX11_leave 116 = .ok (.iload_n 2, 1) := by decide +kernel
theorem dX11_leave_117 : decode cX11_leave 117 = .ok (.iconst (-1), 1) := by decide +kernel
theorem dX11_leave_118 : decode cX11_leave 118 = .ok (.if_icmp .ne 6, 3) := by decide +kernel
theorem dX11_leave_121 : decode cX11_leave 121 = .ok (.bipush (-2), 2) := by decide +kernel
theorem dX11_leave_123 : decode cX11_leave 123 = .ok (.ireturn, 1) := by decide +kernel
theorem dX11_leave_124 : decode cX11_leave 124 = .ok (.aload_n 0, 1) := by decide +kernel
theorem dX11_leave_125 : decode cX11_leave 125 = .ok (.iconst 0, 1) := by decide +kernel
theorem dX11_leave_126 : decode cX11_leave 126 = .ok (.putfield 240, 3) := by decide +kernel
theorem dX11_leave_129 : decode cX11_leave 129 = .ok (.aload_n 0, 1) := by decide +kernel
theorem dX11_leave_130 : decode cX11_leave 130 = .ok (.iload_n 3, 1) := by decide +kernel
theorem dX11_leave_131 : decode cX11_leave 131 = .ok (.i2l, 1) := by decide +kernel
theorem dX11_leave_132 : decode cX11_leave 132 = .ok (.invokevirtual 269, 3) := by decide +kernel
theorem dX11_leave_135 : decode cX11_leave 135 = .ok (.iload_n 2, 1) := by decide +kernel
theorem dX11_leave_136 : decode cX11_leave 136 = .ok (.ireturn, 1) := by decide +kernel
set_option maxRecDepth 100000 in
set_option maxHeartbeats 4000000 in
theorem B_X11_leave_0 {κ : Nat → List Value → List Value → m2M → Prop} {D : Nat} {Q : Option Value → m2M → Prop} (h : m2_RL κ cX11_leave RX11 6 (D + 1) (some .int) Q) (hD : 0 ≤ D) {x1 : Int32} {μ : m2M} (k : ((fX11_isPlan x1) = 1 → ∃ j5 : Nat, 3 = nI j5 ∧ j5 < 4 ∧ (∃ Q9 : Option Value → m2M → Prop, m2_MT D yX3_take cX3_take 4 none [.ref (kK j5), .ref kD, .ref kP] μ Q9 ∧ ∀ (μ8 : m2M), Q9 none μ8 → (κ 33 [.ref kC, .int x1, .int (-1), .int 0, .int 0, .null] [] μ8))) ∧ (¬ (fX11_isPlan x1) = 1 → Q (some (.int (-1))) μ)) : κ 0 [.ref kC, .int x1, .null, .null, .null, .null] [] μ := by
  have hB := h.b
  refine m2_iload_n hB dX11_leave_0 rfl ?_
  refine m2_invSz hB (as := [.int x1]) dX11_leave_1 ms_X11_234 rfl (Nat.le_of_ble_eq_true rfl) rfl (P_X11_isPlan (by omega) (x1) _ ) (fun y1 μ2 hq3 => ?_)
  obtain ⟨⟨⟩, hq3⟩ := hq3
  subst μ2
  show κ 4 [.ref kC, .int x1, .null, .null, .null, .null] [.int (if (fX11_isPlan x1) = 1 then 1 else 0 : Int32)] μ
  by_cases q4 : (fX11_isPlan x1) = 1
  · rw [if_pos q4]
    replace k := k.1 q4
    refine m2_if_ne hB dX11_leave_4 (tgt := 9) (by decide) (fun _ => ?_) (fun q => absurd q (by decide))
    refine m2_iconst hB dX11_leave_9 (v := (-1)) (by decide) ?_
    refine m2_istore_n hB (ls' := [.ref kC, .int x1, .int (-1), .null, .null, .null]) dX11_leave_10 rfl (by decide) rfl ?_
    refine m2_iconst hB dX11_leave_11 (v := 0) (by decide) ?_
    refine m2_istore_n hB (ls' := [.ref kC, .int x1, .int (-1), .int 0, .null, .null]) dX11_leave_12 rfl (by decide) rfl ?_
    refine m2_aload_n hB dX11_leave_13 rfl ?_
    refine m2_getR hB dX11_leave_14 fl_X11_32 sh_kC (c1 := kC_kept) rfl ?_
    refine m2_iconst hB dX11_leave_17 (v := 3) (by decide) ?_
    obtain ⟨j5, e6, h_j5, k⟩ := k
    refine m2_aald hB dX11_leave_18 sh_kC_kept (Or.inl rfl) (ar_kept e6 h_j5).1 (ar_kept e6 h_j5).2 ?_
    have h_j5 : j5 < 10 := by omega
    refine m2_aload_n hB dX11_leave_19 rfl ?_
    refine m2_getR hB dX11_leave_20 fl_X11_39 sh_kC (c1 := kD) rfl ?_
    refine m2_aload_n hB dX11_leave_23 rfl ?_
    refine m2_getR hB dX11_leave_24 fl_X11_46 sh_kC (c1 := kP) rfl ?_
    obtain ⟨Q9, hM10, k⟩ := k
    refine m2_invv hB (as := [.ref kD, .ref kP]) dX11_leave_27 mv_X11_255 rfl (sh_kK h_j5) rfl (Nat.le_of_ble_eq_true rfl) rfl hM10 (fun μ8 hq11 => ?_)
    replace k := k μ8 hq11
    refine m2_iconst hB dX11_leave_30 (v := 0) (by decide) ?_
    refine m2_istore hB (ls' := [.ref kC, .int x1, .int (-1), .int 0, .int 0, .null]) dX11_leave_31 (by decide) rfl ?_
    exact k
  · rw [if_neg q4]
    replace k := k.2 q4
    refine m2_if_ne hB dX11_leave_4 (tgt := 9) (by decide) (fun q => absurd q (by decide)) (fun _ => ?_)
    refine m2_iconst hB dX11_leave_7 (v := (-1)) (by decide) ?_
    exact m2_iret h dX11_leave_8 k
set_option maxRecDepth 100000 in
set_option maxHeartbeats 4000000 in
theorem B_X11_leave_33 {κ : Nat → List Value → List Value → m2M → Prop} {D : Nat} {Q : Option Value → m2M → Prop} (h : m2_RL κ cX11_leave RX11 6 (D + 1) (some .int) Q) (hD : 0 ≤ D) {v1 : Int32} {v2 : Int32} {v3 : Int32} {v4 : Int32} {μ : m2M} (k : ((μ.1 kP 8) ≤ v4 → (¬ v2 = (-1) → ∃ Q5 : Option Value → m2M → Prop, m2_MT D yX11_tell cX11_tell 3 none [.ref kC, .long (v3).toInt64] (m2_si μ kC 3 0) Q5 ∧ ∀ (μ4 : m2M), Q5 none μ4 → (Q (some (.int v2)) μ4)) ∧ (v2 = (-1) → Q (some (.int (-2))) μ)) ∧ (¬ (μ.1 kP 8) ≤ v4 → (vp_in v4 8) ∧ (((fX6_isBusy v4 μ) = 1 → ∃ Q15 : Option Value → m2M → Prop, m2_MT D yX10_run cX10_run 5 none [.ref kW, .int v1, .int v4] μ Q15 ∧ ∀ (μ14 : m2M), Q15 none μ14 → (∃ Q20 : Option Value → m2M → Prop, m2_MT D yX6_worthDone cX6_worthDone 3 (some .int) [.ref kP] μ14 Q20 ∧ ∀ (y18 : Int32) (μ19 : m2M), Q20 (some (.int y18)) μ19 → ((v2 = (-1) → ∃ j24 : Nat, 3 = nI j24 ∧ j24 < 4 ∧ (∃ Q28 : Option Value → m2M → Prop, m2_MT D yX3_giveBack cX3_giveBack 4 none [.ref (kK j24), .ref kD, .ref kP] μ19 Q28 ∧ ∀ (μ27 : m2M), Q28 none μ27 → (κ 33 [.ref kC, .int v1, .int v4, .int y18, .int (v4 + 1), .null] [] μ27))) ∧ (¬ v2 = (-1) → (y18 ≤ v3 → ∃ j32 : Nat, 3 = nI j32 ∧ j32 < 4 ∧ (∃ Q36 : Option Value → m2M → Prop, m2_MT D yX3_giveBack cX3_giveBack 4 none [.ref (kK j32), .ref kD, .ref kP] μ19 Q36 ∧ ∀ (μ35 : m2M), Q36 none μ35 → (κ 33 [.ref kC, .int v1, .int v2, .int v3, .int (v4 + 1), .null] [] μ35))) ∧ (¬ y18 ≤ v3 → ∃ j39 : Nat, 3 = nI j39 ∧ j39 < 4 ∧ (∃ Q43 : Option Value → m2M → Prop, m2_MT D yX3_giveBack cX3_giveBack 4 none [.ref (kK j39), .ref kD, .ref kP] μ19 Q43 ∧ ∀ (μ42 : m2M), Q43 none μ42 → (κ 33 [.ref kC, .int v1, .int v4, .int y18, .int (v4 + 1), .null] [] μ42))))))) ∧ (¬ (fX6_isBusy v4 μ) = 1 → κ 33 [.ref kC, .int v1, .int v2, .int v3, .int (v4 + 1), .null] [] μ)))) : κ 33 [.ref kC, .int v1, .int v2, .int v3, .int v4, .null] [] μ := by
  have hB := h.b
  refine m2_iload hB dX11_leave_33 rfl ?_
  refine m2_aload_n hB dX11_leave_35 rfl ?_
  refine m2_getR hB dX11_leave_36 fl_X11_46 sh_kC (c1 := kP) rfl ?_
  refine m2_getI hB dX11_leave_39 fl_X11_353 sh_kP rfl ?_
  refine m2_icmp_ge hB dX11_leave_42 (tgt := 116) (by decide) (fun q1 : (μ.1 kP 8) ≤ v4 => ?_) (fun q1 : ¬ (μ.1 kP 8) ≤ v4 => ?_)
  · replace k := k.1 q1
    refine m2_iload_n hB dX11_leave_116 rfl ?_
    refine m2_iconst hB dX11_leave_117 (v := (-1)) (by decide) ?_
    refine m2_icmp_ne hB dX11_leave_118 (tgt := 124) (by decide) (fun q2 : ¬ v2 = (-1) => ?_) (fun q2 : v2 = (-1) => ?_)
    · replace k := k.1 q2
      refine m2_aload_n hB dX11_leave_124 rfl ?_
      refine m2_iconst hB dX11_leave_125 (v := 0) (by decide) ?_
      refine m2_putI hB dX11_leave_126 fl_X11_240 sh_kC rfl ?_
      refine m2_aload_n hB dX11_leave_129 rfl ?_
      refine m2_iload_n hB dX11_leave_130 rfl ?_
      refine m2_i2l hB dX11_leave_131 ?_
      obtain ⟨Q5, hM6, k⟩ := k
      refine m2_invv hB (as := [.long (v3).toInt64]) dX11_leave_132 mv_X11_269 rfl sh_kC rfl (Nat.le_of_ble_eq_true rfl) rfl hM6 (fun μ4 hq7 => ?_)
      replace k := k μ4 hq7
      refine m2_iload_n hB dX11_leave_135 rfl ?_
      exact m2_iret h dX11_leave_136 k
    · replace k := k.2 q2
      refine m2_bipush hB dX11_leave_121 (v := (-2)) (by decide) ?_
      exact m2_iret h dX11_leave_123 k
  · replace k := k.2 q1
    refine m2_aload_n hB dX11_leave_45 rfl ?_
    refine m2_getR hB dX11_leave_46 fl_X11_46 sh_kC (c1 := kP) rfl ?_
    refine m2_iload hB dX11_leave_49 rfl ?_
    obtain ⟨hs8, k⟩ := k
    refine m2_invz hB (as := [.int v4]) dX11_leave_51 mv_X11_237 rfl sh_kP rfl (Nat.le_of_ble_eq_true rfl) rfl (P_X6_isBusy (by omega) (v4) _ hs8) (fun y9 μ10 hq11 => ?_)
    obtain ⟨⟨⟩, hq11⟩ := hq11
    subst μ10
    show κ 54 [.ref kC, .int v1, .int v2, .int v3, .int v4, .null] [.int (if (fX6_isBusy v4 μ) = 1 then 1 else 0 : Int32)] μ
    by_cases q12 : (fX6_isBusy v4 μ) = 1
    · rw [if_pos q12]
      replace k := k.1 q12
      refine m2_if_eq hB dX11_leave_54 (tgt := 110) (by decide) (fun q => absurd q (by decide)) (fun _ => ?_)
      refine m2_aload_n hB dX11_leave_57 rfl ?_
      refine m2_getR hB dX11_leave_58 fl_X11_89 sh_kC (c1 := kW) rfl ?_
      refine m2_iload_n hB dX11_leave_61 rfl ?_
      refine m2_iload hB dX11_leave_62 rfl ?_
      obtain ⟨Q15, hM16, k⟩ := k
      refine m2_invv hB (as := [.int v1, .int v4]) dX11_leave_64 mv_X11_323 rfl sh_kW rfl (Nat.le_of_ble_eq_true rfl) rfl hM16 (fun μ14 hq17 => ?_)
      replace k := k μ14 hq17
      refine m2_aload_n hB dX11_leave_67 rfl ?_
      refine m2_getR hB dX11_leave_68 fl_X11_46 sh_kC (c1 := kP) rfl ?_
      obtain ⟨Q20, hM21, k⟩ := k
      refine m2_invi hB (as := []) dX11_leave_71 mv_X11_329 rfl sh_kP rfl (Nat.le_of_ble_eq_true rfl) rfl hM21 (fun y18 μ19 hq22 => ?_)
      replace k := k y18 μ19 hq22
      refine m2_istore hB (ls' := [.ref kC, .int v1, .int v2, .int v3, .int v4, .int y18]) dX11_leave_74 (by decide) rfl ?_
      refine m2_iload_n hB dX11_leave_76 rfl ?_
      refine m2_iconst hB dX11_leave_77 (v := (-1)) (by decide) ?_
      refine m2_icmp_eq hB dX11_leave_78 (tgt := 87) (by decide) (fun q23 : v2 = (-1) => ?_) (fun q23 : ¬ v2 = (-1) => ?_)
      · replace k := k.1 q23
        refine m2_iload hB dX11_leave_87 rfl ?_
        refine m2_istore_n hB (ls' := [.ref kC, .int v1, .int v4, .int v3, .int v4, .int y18]) dX11_leave_89 rfl (by decide) rfl ?_
        refine m2_iload hB dX11_leave_90 rfl ?_
        refine m2_istore_n hB (ls' := [.ref kC, .int v1, .int v4, .int y18, .int v4, .int y18]) dX11_leave_92 rfl (by decide) rfl ?_
        refine m2_aload_n hB dX11_leave_93 rfl ?_
        refine m2_getR hB dX11_leave_94 fl_X11_32 sh_kC (c1 := kC_kept) rfl ?_
        refine m2_iconst hB dX11_leave_97 (v := 3) (by decide) ?_
        obtain ⟨j24, e25, h_j24, k⟩ := k
        refine m2_aald hB dX11_leave_98 sh_kC_kept (Or.inl rfl) (ar_kept e25 h_j24).1 (ar_kept e25 h_j24).2 ?_
        have h_j24 : j24 < 10 := by omega
        refine m2_aload_n hB dX11_leave_99 rfl ?_
        refine m2_getR hB dX11_leave_100 fl_X11_39 sh_kC (c1 := kD) rfl ?_
        refine m2_aload_n hB dX11_leave_103 rfl ?_
        refine m2_getR hB dX11_leave_104 fl_X11_46 sh_kC (c1 := kP) rfl ?_
        obtain ⟨Q28, hM29, k⟩ := k
        refine m2_invv hB (as := [.ref kD, .ref kP]) dX11_leave_107 mv_X11_262 rfl (sh_kK h_j24) rfl (Nat.le_of_ble_eq_true rfl) rfl hM29 (fun μ27 hq30 => ?_)
        replace k := k μ27 hq30
        refine m2_iinc hB (ls' := [.ref kC, .int v1, .int v4, .int y18, .int (v4 + 1), .int y18]) (v := (v4 + 1)) dX11_leave_110 rfl (by decide) rfl rfl ?_
        refine m2_goto hB dX11_leave_113 (tgt := 33) (by decide) ?_
        exact m2_weak (ls' := [.ref kC, .int v1, .int v4, .int y18, .int (v4 + 1), .null]) hB ⟨Or.inr rfl, Or.inr rfl, Or.inr rfl, Or.inr rfl, Or.inr rfl, Or.inl rfl, trivial⟩ k
      · replace k := k.2 q23
        refine m2_iload hB dX11_leave_81 rfl ?_
        refine m2_iload_n hB dX11_leave_83 rfl ?_
        refine m2_icmp_le hB dX11_leave_84 (tgt := 93) (by decide) (fun q31 : y18 ≤ v3 => ?_) (fun q31 : ¬ y18 ≤ v3 => ?_)
        · replace k := k.1 q31
          refine m2_aload_n hB dX11_leave_93 rfl ?_
          refine m2_getR hB dX11_leave_94 fl_X11_32 sh_kC (c1 := kC_kept) rfl ?_
          refine m2_iconst hB dX11_leave_97 (v := 3) (by decide) ?_
          obtain ⟨j32, e33, h_j32, k⟩ := k
          refine m2_aald hB dX11_leave_98 sh_kC_kept (Or.inl rfl) (ar_kept e33 h_j32).1 (ar_kept e33 h_j32).2 ?_
          have h_j32 : j32 < 10 := by omega
          refine m2_aload_n hB dX11_leave_99 rfl ?_
          refine m2_getR hB dX11_leave_100 fl_X11_39 sh_kC (c1 := kD) rfl ?_
          refine m2_aload_n hB dX11_leave_103 rfl ?_
          refine m2_getR hB dX11_leave_104 fl_X11_46 sh_kC (c1 := kP) rfl ?_
          obtain ⟨Q36, hM37, k⟩ := k
          refine m2_invv hB (as := [.ref kD, .ref kP]) dX11_leave_107 mv_X11_262 rfl (sh_kK h_j32) rfl (Nat.le_of_ble_eq_true rfl) rfl hM37 (fun μ35 hq38 => ?_)
          replace k := k μ35 hq38
          refine m2_iinc hB (ls' := [.ref kC, .int v1, .int v2, .int v3, .int (v4 + 1), .int y18]) (v := (v4 + 1)) dX11_leave_110 rfl (by decide) rfl rfl ?_
          refine m2_goto hB dX11_leave_113 (tgt := 33) (by decide) ?_
          exact m2_weak (ls' := [.ref kC, .int v1, .int v2, .int v3, .int (v4 + 1), .null]) hB ⟨Or.inr rfl, Or.inr rfl, Or.inr rfl, Or.inr rfl, Or.inr rfl, Or.inl rfl, trivial⟩ k
        · replace k := k.2 q31
          refine m2_iload hB dX11_leave_87 rfl ?_
          refine m2_istore_n hB (ls' := [.ref kC, .int v1, .int v4, .int v3, .int v4, .int y18]) dX11_leave_89 rfl (by decide) rfl ?_
          refine m2_iload hB dX11_leave_90 rfl ?_
          refine m2_istore_n hB (ls' := [.ref kC, .int v1, .int v4, .int y18, .int v4, .int y18]) dX11_leave_92 rfl (by decide) rfl ?_
          refine m2_aload_n hB dX11_leave_93 rfl ?_
          refine m2_getR hB dX11_leave_94 fl_X11_32 sh_kC (c1 := kC_kept) rfl ?_
          refine m2_iconst hB dX11_leave_97 (v := 3) (by decide) ?_
          obtain ⟨j39, e40, h_j39, k⟩ := k
          refine m2_aald hB dX11_leave_98 sh_kC_kept (Or.inl rfl) (ar_kept e40 h_j39).1 (ar_kept e40 h_j39).2 ?_
          have h_j39 : j39 < 10 := by omega
          refine m2_aload_n hB dX11_leave_99 rfl ?_
          refine m2_getR hB dX11_leave_100 fl_X11_39 sh_kC (c1 := kD) rfl ?_
          refine m2_aload_n hB dX11_leave_103 rfl ?_
          refine m2_getR hB dX11_leave_104 fl_X11_46 sh_kC (c1 := kP) rfl ?_
          obtain ⟨Q43, hM44, k⟩ := k
          refine m2_invv hB (as := [.ref kD, .ref kP]) dX11_leave_107 mv_X11_262 rfl (sh_kK h_j39) rfl (Nat.le_of_ble_eq_true rfl) rfl hM44 (fun μ42 hq45 => ?_)
          replace k := k μ42 hq45
          refine m2_iinc hB (ls' := [.ref kC, .int v1, .int v4, .int y18, .int (v4 + 1), .int y18]) (v := (v4 + 1)) dX11_leave_110 rfl (by decide) rfl rfl ?_
          refine m2_goto hB dX11_leave_113 (tgt := 33) (by decide) ?_
          exact m2_weak (ls' := [.ref kC, .int v1, .int v4, .int y18, .int (v4 + 1), .null]) hB ⟨Or.inr rfl, Or.inr rfl, Or.inr rfl, Or.inr rfl, Or.inr rfl, Or.inl rfl, trivial⟩ k
    · rw [if_neg q12]
      replace k := k.2 q12
      refine m2_if_eq hB dX11_leave_54 (tgt := 110) (by decide) (fun _ => ?_) (fun q => absurd q (by decide))
      refine m2_iinc hB (ls' := [.ref kC, .int v1, .int v2, .int v3, .int (v4 + 1), .null]) (v := (v4 + 1)) dX11_leave_110 rfl (by decide) rfl rfl ?_
      refine m2_goto hB dX11_leave_113 (tgt := 33) (by decide) ?_
      exact k
theorem dX11_tour_0 : decode cX11_tour 0 = .ok (.aload_n 0, 1) := by decide +kernel
theorem dX11_tour_1 : decode cX11_tour 1 = .ok (.getfield 46, 3) := by decide +kernel
theorem dX11_tour_4 : decode cX11_tour 4 = .ok (.iload_n 1, 1) := by decide +kernel
theorem dX11_tour_5 : decode cX11_tour 5 = .ok (.invokevirtual 164, 3) := by decide +kernel
theorem dX11_tour_8 : decode cX11_tour 8 = .ok (.ifCond .eq 10, 3) := by decide +kernel
theorem dX11_tour_11 : decode cX11_tour 11 = .ok (.iload_n 2, 1) := by decide +kernel
theorem dX11_tour_12 : decode cX11_tour 12 = .ok (.invokestatic 354, 3) := by decide +kernel
theorem dX11_tour_15 : decode cX11_tour 15 = .ok (.ifCond .ne 5, 3) := by decide +kernel
theorem dX11_tour_18 : decode cX11_tour 18 = .ok (.iconst (-1), 1) := by decide +kernel
theorem dX11_tour_19 : decode cX11_tour 19 = .ok (.ireturn, 1) := by decide +kernel
theorem dX11_tour_20 : decode cX11_tour 20 = .ok (.aload_n 0, 1) := by decide +kernel
theorem dX11_tour_21 : decode cX11_tour 21 = .ok (.getfield 107, 3) := by decide +kernel
theorem dX11_tour_24 : decode cX11_tour 24 = .ok (.iload_n 2, 1) := by decide +kernel
theorem dX11_tour_25 : decode cX11_tour 25 = .ok (.invokevirtual 357, 3) := by decide +kernel
theorem dX11_tour_28 : decode cX11_tour 28 = .ok (.aload_n 0, 1) := by decide +kernel
theorem dX11_tour_29 : decode cX11_tour 29 = .ok (.getfield 107, 3) := by decide +kernel
theorem dX11_tour_32 : decode cX11_tour 32 = .ok (.aload_n 0, 1) := by decide +kernel
theorem dX11_tour_33 : decode cX11_tour 33 = .ok (.getfield 46, 3) := by decide +kernel
theorem dX11_tour_36 : decode cX11_tour 36 = .ok (.getfield 167, 3) := by decide +kernel
theorem dX11_tour_39 : decode cX11_tour 39 = .ok (.iload_n 1, 1) := by decide +kernel
theorem dX11_tour_40 : decode cX11_tour 40 = .ok (.iaload, 1) := by decide +kernel
theorem dX11_tour_41 : decode cX11_tour 41 = .ok (.invokevirtual 360, 3) := by decide +kernel
theorem dX11_tour_44 : decode cX11_tour 44 = .ok (.istore_n 3, 1) := by decide +kernel
theorem dX11_tour_45 : decode cX11_tour 45 = .ok (.iload_n 3, 1) := by decide +kernel
theorem dX11_tour_46 : decode cX11_tour 46 = .ok (.iconst (-1), 1) := by decide +kernel
theorem dX11_tour_47 : decode cX11_tour 47 = .ok (.if_icmp .ne 6, 3) := by decide +kernel
theorem dX11_tour_50 : decode cX11_tour 50 = .ok (.bipush (-2), 2) := by decide +kernel
theorem dX11_tour_52 : decode cX11_tour 52 = .ok (.ireturn, 1) := by decide +kernel
theorem dX11_tour_53 : decode cX11_tour 53 = .ok (.aload_n 0, 1) := by decide +kernel
theorem dX11_tour_54 : decode cX11_tour 54 = .ok (.getfield 107, 3) := by decide +kernel
theorem dX11_tour_57 : decode cX11_tour 57 = .ok (.aload_n 0, 1) := by decide +kernel
theorem dX11_tour_58 : decode cX11_tour 58 = .ok (.getfield 46, 3) := by decide +kernel
theorem dX11_tour_61 : decode cX11_tour 61 = .ok (.getfield 167, 3) := by decide +kernel
theorem dX11_tour_64 : decode cX11_tour 64 = .ok (.iload_n 1, 1) := by decide +kernel
theorem dX11_tour_65 : decode cX11_tour 65 = .ok (.iaload, 1) := by decide +kernel
theorem dX11_tour_66 : decode cX11_tour 66 = .ok (.invokevirtual 363, 3) := by decide +kernel
theorem dX11_tour_69 : decode cX11_tour 69 = .ok (.aload_n 0, 1) := by decide +kernel
theorem dX11_tour_70 : decode cX11_tour 70 = .ok (.iconst 0, 1) := by decide +kernel
theorem dX11_tour_71 : decode cX11_tour 71 = .ok (.putfield 240, 3) := by decide +kernel
theorem dX11_tour_74 : decode cX11_tour 74 = .ok (.iconst 0, 1) := by decide +kernel
theorem dX11_tour_75 : decode cX11_tour 75 = .ok (.istore 4, 2) := by decide +kernel
theorem dX11_tour_77 : decode cX11_tour 77 = .ok (.iload 4, 2) := by decide +kernel
theorem dX11_tour_79 : decode cX11_tour 79 = .ok (.aload_n 0, 1) := by decide +kernel
theorem dX11_tour_80 : decode cX11_tour 80 = .ok (.getfield 107, 3) := by decide +kernel
theorem dX11_tour_83 : decode cX11_tour 83 = .ok (.getfield 366, 3) := by decide +kernel
theorem dX11_tour_86 : decode cX11_tour 86 = .ok (.if_icmp .ge 24, 3) := by decide +kernel
theorem dX11_tour_89 : decode cX11_tour 89 = .ok (.aload_n 0, 1) := by decide +kernel
theorem dX11_tour_90 : decode cX11_tour 90 = .ok (.aload_n 0, 1) := by decide +kernel
theorem dX11_tour_91 : decode cX11_tour 91 = .ok (.getfield 107, 3) := by decide +kernel
theorem dX11_tour_94 : decode cX11_tour 94 = .ok (.getfield 367, 3) := by decide +kernel
theorem dX11_tour_97 : decode cX11_tour 97 = .ok (.iload 4, 2) := by decide +kernel
theorem dX11_tour_99 : decode cX11_tour 99 = .ok (.iaload, 1) := by decide +kernel
theorem dX11_tour_100 : decode cX11_tour 100 = .ok (.i2l, 1) := by decide +kernel
theorem dX11_tour_101 : decode cX11_tour 101 = .ok (.invokevirtual 269, 3) := by decide +kernel
theorem dX11_tour_104 : decode cX11_tour 104 = .ok (.iinc 4 1, 3) := by decide +kernel
theorem dX11_tour_107 : decode cX11_tour 107 = .ok (.goto (-30), 3) := by decide +kernel
theorem dX11_tour_110 : decode cX11_tour 110 = .ok (.iload_n 3, 1) := by decide +kernel
theorem dX11_tour_111 : decode cX11_tour 111 = .ok (.ireturn, 1) := by decide +kernel
set_option maxRecDepth 100000 in
set_option maxHeartbeats 4000000 in
theorem B_X11_tour_0 {κ : Nat → List Value → List Value → m2M → Prop} {D : Nat} {Q : Option Value → m2M → Prop} (h : m2_RL κ cX11_tour RX11 5 (D + 1) (some .int) Q) (hD : 1 ≤ D) {x1 : Int32} {x2 : Int32} {μ : m2M} (k : ((fX6_has x1 μ) = 1 → ((fX9_areFew x2) = 1 → ∃ Q11 : Option Value → m2M → Prop, m2_MT D yX9_prepare cX9_prepare 4 none [.ref kT, .int x2] μ Q11 ∧ ∀ (μ10 : m2M), Q11 none μ10 → ((vp_in x1 8) ∧ (∃ Q17 : Option Value → m2M → Prop, m2_MT D yX9_fewestFrom cX9_fewestFrom 3 (some .int) [.ref kT, .int (μ10.1 kP_where (x1).toNatClampNeg)] μ10 Q17 ∧ ∀ (y15 : Int32) (μ16 : m2M), Q17 (some (.int y15)) μ16 → ((¬ y15 = (-1) → ∃ Q24 : Option Value → m2M → Prop, m2_MT D yX9_arrange cX9_arrange 6 none [.ref kT, .int (μ16.1 kP_where (x1).toNatClampNeg)] μ16 Q24 ∧ ∀ (μ23 : m2M), Q24 none μ23 → (κ 77 [.ref kC, .int x1, .int x2, .int y15, .int 0] [] (m2_si μ23 kC 3 0))) ∧ (y15 = (-1) → Q (some (.int (-2))) μ16))))) ∧ (¬ (fX9_areFew x2) = 1 → Q (some (.int (-1))) μ)) ∧ (¬ (fX6_has x1 μ) = 1 → Q (some (.int (-1))) μ)) : κ 0 [.ref kC, .int x1, .int x2, .null, .null] [] μ := by
  have hB := h.b
  refine m2_aload_n hB dX11_tour_0 rfl ?_
  refine m2_getR hB dX11_tour_1 fl_X11_46 sh_kC (c1 := kP) rfl ?_
  refine m2_iload_n hB dX11_tour_4 rfl ?_
  refine m2_invz hB (as := [.int x1]) dX11_tour_5 mv_X11_164 rfl sh_kP rfl (Nat.le_of_ble_eq_true rfl) rfl (P_X6_has (by omega) (x1) _ ) (fun y1 μ2 hq3 => ?_)
  obtain ⟨⟨⟩, hq3⟩ := hq3
  subst μ2
  show κ 8 [.ref kC, .int x1, .int x2, .null, .null] [.int (if (fX6_has x1 μ) = 1 then 1 else 0 : Int32)] μ
  by_cases q4 : (fX6_has x1 μ) = 1
  · rw [if_pos q4]
    replace k := k.1 q4
    refine m2_if_eq hB dX11_tour_8 (tgt := 18) (by decide) (fun q => absurd q (by decide)) (fun _ => ?_)
    refine m2_iload_n hB dX11_tour_11 rfl ?_
    refine m2_invSz hB (as := [.int x2]) dX11_tour_12 ms_X11_354 rfl (Nat.le_of_ble_eq_true rfl) rfl (P_X9_areFew (by omega) (x2) _ ) (fun y5 μ6 hq7 => ?_)
    obtain ⟨⟨⟩, hq7⟩ := hq7
    subst μ6
    show κ 15 [.ref kC, .int x1, .int x2, .null, .null] [.int (if (fX9_areFew x2) = 1 then 1 else 0 : Int32)] μ
    by_cases q8 : (fX9_areFew x2) = 1
    · rw [if_pos q8]
      replace k := k.1 q8
      refine m2_if_ne hB dX11_tour_15 (tgt := 20) (by decide) (fun _ => ?_) (fun q => absurd q (by decide))
      refine m2_aload_n hB dX11_tour_20 rfl ?_
      refine m2_getR hB dX11_tour_21 fl_X11_107 sh_kC (c1 := kT) rfl ?_
      refine m2_iload_n hB dX11_tour_24 rfl ?_
      obtain ⟨Q11, hM12, k⟩ := k
      refine m2_invv hB (as := [.int x2]) dX11_tour_25 mv_X11_357 rfl sh_kT rfl (Nat.le_of_ble_eq_true rfl) rfl hM12 (fun μ10 hq13 => ?_)
      replace k := k μ10 hq13
      refine m2_aload_n hB dX11_tour_28 rfl ?_
      refine m2_getR hB dX11_tour_29 fl_X11_107 sh_kC (c1 := kT) rfl ?_
      refine m2_aload_n hB dX11_tour_32 rfl ?_
      refine m2_getR hB dX11_tour_33 fl_X11_46 sh_kC (c1 := kP) rfl ?_
      refine m2_getR hB dX11_tour_36 fl_X11_167 sh_kP (c1 := kP_where) rfl ?_
      refine m2_iload_n hB dX11_tour_39 rfl ?_
      obtain ⟨hi14, k⟩ := k
      refine m2_iald hB dX11_tour_40 sh_kP_where hi14 ?_
      obtain ⟨Q17, hM18, k⟩ := k
      refine m2_invi hB (as := [.int (μ10.1 kP_where (x1).toNatClampNeg)]) dX11_tour_41 mv_X11_360 rfl sh_kT rfl (Nat.le_of_ble_eq_true rfl) rfl hM18 (fun y15 μ16 hq19 => ?_)
      replace k := k y15 μ16 hq19
      refine m2_istore_n hB (ls' := [.ref kC, .int x1, .int x2, .int y15, .null]) dX11_tour_44 rfl (by decide) rfl ?_
      refine m2_iload_n hB dX11_tour_45 rfl ?_
      refine m2_iconst hB dX11_tour_46 (v := (-1)) (by decide) ?_
      refine m2_icmp_ne hB dX11_tour_47 (tgt := 53) (by decide) (fun q20 : ¬ y15 = (-1) => ?_) (fun q20 : y15 = (-1) => ?_)
      · replace k := k.1 q20
        refine m2_aload_n hB dX11_tour_53 rfl ?_
        refine m2_getR hB dX11_tour_54 fl_X11_107 sh_kC (c1 := kT) rfl ?_
        refine m2_aload_n hB dX11_tour_57 rfl ?_
        refine m2_getR hB dX11_tour_58 fl_X11_46 sh_kC (c1 := kP) rfl ?_
        refine m2_getR hB dX11_tour_61 fl_X11_167 sh_kP (c1 := kP_where) rfl ?_
        refine m2_iload_n hB dX11_tour_64 rfl ?_
        have hi21 := hi14
        refine m2_iald hB dX11_tour_65 sh_kP_where hi21 ?_
        obtain ⟨Q24, hM25, k⟩ := k
        refine m2_invv hB (as := [.int (μ16.1 kP_where (x1).toNatClampNeg)]) dX11_tour_66 mv_X11_363 rfl sh_kT rfl (Nat.le_of_ble_eq_true rfl) rfl hM25 (fun μ23 hq26 => ?_)
        replace k := k μ23 hq26
        refine m2_aload_n hB dX11_tour_69 rfl ?_
        refine m2_iconst hB dX11_tour_70 (v := 0) (by decide) ?_
        refine m2_putI hB dX11_tour_71 fl_X11_240 sh_kC rfl ?_
        refine m2_iconst hB dX11_tour_74 (v := 0) (by decide) ?_
        refine m2_istore hB (ls' := [.ref kC, .int x1, .int x2, .int y15, .int 0]) dX11_tour_75 (by decide) rfl ?_
        exact k
      · replace k := k.2 q20
        refine m2_bipush hB dX11_tour_50 (v := (-2)) (by decide) ?_
        exact m2_iret h dX11_tour_52 k
    · rw [if_neg q8]
      replace k := k.2 q8
      refine m2_if_ne hB dX11_tour_15 (tgt := 20) (by decide) (fun q => absurd q (by decide)) (fun _ => ?_)
      refine m2_iconst hB dX11_tour_18 (v := (-1)) (by decide) ?_
      exact m2_iret h dX11_tour_19 k
  · rw [if_neg q4]
    replace k := k.2 q4
    refine m2_if_eq hB dX11_tour_8 (tgt := 18) (by decide) (fun _ => ?_) (fun q => absurd q (by decide))
    refine m2_iconst hB dX11_tour_18 (v := (-1)) (by decide) ?_
    exact m2_iret h dX11_tour_19 k
set_option maxRecDepth 100000 in
set_option maxHeartbeats 4000000 in
theorem B_X11_tour_77 {κ : Nat → List Value → List Value → m2M → Prop} {D : Nat} {Q : Option Value → m2M → Prop} (h : m2_RL κ cX11_tour RX11 5 (D + 1) (some .int) Q) {v1 : Int32} {v2 : Int32} {v3 : Int32} {v4 : Int32} {μ : m2M} (k : ((μ.1 kT 5) ≤ v4 → Q (some (.int v3)) μ) ∧ (¬ (μ.1 kT 5) ≤ v4 → (vp_in v4 6) ∧ (∃ Q6 : Option Value → m2M → Prop, m2_MT D yX11_tell cX11_tell 3 none [.ref kC, .long ((μ.1 kT_arranged (v4).toNatClampNeg)).toInt64] μ Q6 ∧ ∀ (μ5 : m2M), Q6 none μ5 → (κ 77 [.ref kC, .int v1, .int v2, .int v3, .int (v4 + 1)] [] μ5)))) : κ 77 [.ref kC, .int v1, .int v2, .int v3, .int v4] [] μ := by
  have hB := h.b
  refine m2_iload hB dX11_tour_77 rfl ?_
  refine m2_aload_n hB dX11_tour_79 rfl ?_
  refine m2_getR hB dX11_tour_80 fl_X11_107 sh_kC (c1 := kT) rfl ?_
  refine m2_getI hB dX11_tour_83 fl_X11_366 sh_kT rfl ?_
  refine m2_icmp_ge hB dX11_tour_86 (tgt := 110) (by decide) (fun q2 : (μ.1 kT 5) ≤ v4 => ?_) (fun q2 : ¬ (μ.1 kT 5) ≤ v4 => ?_)
  · replace k := k.1 q2
    refine m2_iload_n hB dX11_tour_110 rfl ?_
    exact m2_iret h dX11_tour_111 k
  · replace k := k.2 q2
    refine m2_aload_n hB dX11_tour_89 rfl ?_
    refine m2_aload_n hB dX11_tour_90 rfl ?_
    refine m2_getR hB dX11_tour_91 fl_X11_107 sh_kC (c1 := kT) rfl ?_
    refine m2_getR hB dX11_tour_94 fl_X11_367 sh_kT (c1 := kT_arranged) rfl ?_
    refine m2_iload hB dX11_tour_97 rfl ?_
    obtain ⟨hi3, k⟩ := k
    refine m2_iald hB dX11_tour_99 sh_kT_arranged hi3 ?_
    refine m2_i2l hB dX11_tour_100 ?_
    obtain ⟨Q6, hM7, k⟩ := k
    refine m2_invv hB (as := [.long ((μ.1 kT_arranged (v4).toNatClampNeg)).toInt64]) dX11_tour_101 mv_X11_269 rfl sh_kC rfl (Nat.le_of_ble_eq_true rfl) rfl hM7 (fun μ5 hq8 => ?_)
    replace k := k μ5 hq8
    refine m2_iinc hB (ls' := [.ref kC, .int v1, .int v2, .int v3, .int (v4 + 1)]) (v := (v4 + 1)) dX11_tour_104 rfl (by decide) rfl rfl ?_
    refine m2_goto hB dX11_tour_107 (tgt := 77) (by decide) ?_
    exact k
theorem dX11_send_0 : decode cX11_send 0 = .ok (.aload_n 0, 1) := by decide +kernel
theorem dX11_send_1 : decode cX11_send 1 = .ok (.getfield 46, 3) := by decide +kernel
theorem dX11_send_4 : decode cX11_send 4 = .ok (.getfield 353, 3) := by decide +kernel
theorem dX11_send_7 : decode cX11_send 7 = .ok (.ifCond .eq 10, 3) := by decide +kernel
theorem dX11_send_10 : decode cX11_send 10 = .ok (.iload_n 1, 1) := by decide +kernel
theorem dX11_send_11 : decode cX11_send 11 = .ok (.invokestatic 354, 3) := by decide +kernel
theorem dX11_send_14 : decode cX11_send 14 = .ok (.ifCond .ne 5, 3) := by decide +kernel
theorem dX11_send_17 : decode cX11_send 17 = .ok (.iconst (-1), 1) := by decide +kernel
theorem dX11_send_18 : decode cX11_send 18 = .ok (.ireturn, 1) := by decide +kernel
theorem dX11_send_19 : decode cX11_send 19 = .ok (.aload_n 0, 1) := by decide +kernel
theorem dX11_send_20 : decode cX11_send 20 = .ok (.getfield 107, 3) := by decide +kernel
theorem dX11_send_23 : decode cX11_send 23 = .ok (.iload_n 1, 1) := by decide +kernel
theorem dX11_send_24 : decode cX11_send 24 = .ok (.invokevirtual 357, 3) := by decide +kernel
theorem dX11_send_27 : decode cX11_send 27 = .ok (.iconst (-1), 1) := by decide +kernel
theorem dX11_send_28 : decode cX11_send 28 = .ok (.istore_n 2, 1) := by decide +kernel
theorem dX11_send_29 : decode cX11_send 29 = .ok (.iconst 0, 1) := by decide +kernel
theorem dX11_send_30 : decode cX11_send 30 = .ok (.istore_n 3, 1) := by decide +kernel
theorem dX11_send_31 : decode cX11_send 31 = .ok (.iconst 0, 1) := by decide +kernel
theorem dX11_send_32 : decode cX11_send 32 = .ok (.istore 4, 2) := by decide +kernel
theorem dX11_send_34 : decode cX11_send 34 = .ok (.iload 4, 2) := by decide +kernel
theorem dX11_send_36 : decode cX11_send 36 = .ok (.aload_n 0, 1) := by decide +kernel
theorem dX11_send_37 : decode cX11_send 37 = .ok (.getfield 46, 3) := by decide +kernel
theorem dX11_send_40 : decode cX11_send 40 = .ok (.getfield 353, 3) := by decide +kernel
theorem dX11_send_43 : decode cX11_send 43 = .ok (.if_icmp .ge 51, 3) := by decide +kernel
theorem dX11_send_46 : decode cX11_send 46 = .ok (.aload_n 0, 1) := by decide +kernel
theorem dX11_send_47 : decode cX11_send 47 = .ok (.getfield 107, 3) := by decide +kernel
theorem dX11_send_50 : decode cX11_send 50 = .ok (.aload_n 0, 1) := by decide +kernel
theorem dX11_send_51 : decode cX11_send 51 = .ok (.getfield 46, 3) := by decide +kernel
theorem dX11_send_54 : decode cX11_send 54 = .ok (.getfield 167, 3) := by decide +kernel
theorem dX11_send_57 : decode cX11_send 57 = .ok (.iload 4, 2) := by decide +kernel
theorem dX11_send_59 : decode cX11_send 59 = .ok (.iaload, 1) := by decide +kernel
theorem dX11_send_60 : decode cX11_send 60 = .ok (.invokevirtual 360, 3) := by decide +kernel
theorem dX11_send_63 : decode cX11_send 63 = .ok (.istore 5, 2) := by decide +kernel
theorem dX11_send_65 : decode cX11_send 65 = .ok (.iload 5, 2) := by decide +kernel
theorem dX11_send_67 : decode cX11_send 67 = .ok (.iconst (-1), 1) := by decide +kernel
theorem dX11_send_68 : decode cX11_send 68 = .ok (.if_icmp .eq 20, 3) := by decide +kernel
theorem dX11_send_71 : decode cX11_send 71 = .ok (.iload_n 2, 1) := by decide +kernel
theorem dX11_send_72 : decode cX11_send 72 = .ok (.iconst (-1), 1) := by decide +kernel
theorem dX11_send_73 : decode cX11_send 73 = .ok (.if_icmp .eq 9, 3) := by decide +kernel
theorem dX11_send_76 : decode cX11_send 76 = .ok (.iload 5, 2) := by decide +kernel
theorem dX11_send_78 : decode cX11_send 78 = .ok (.iload_n 3, 1) := by decide +kernel
theorem dX11_send_79 : decode cX11_send 79 = .ok (.if_icmp .ge 9, 3) := by decide +kernel
theorem dX11_send_82 : decode cX11_send 82 = .ok (.iload 4, 2) := by decide +kernel
theorem dX11_send_84 : decode cX11_send 84 = .ok (.istore_n 2, 1) := by decide +kernel
theorem dX11_send_85 : decode cX11_send 85 = .ok (.iload 5, 2) := by decide +kernel
theorem dX11_send_87 : decode cX11_send 87 = .ok (.istore_n 3, 1) := by decide +kernel
theorem dX11_send_88 : decode cX11_send 88 = .ok (.iinc 4 1, 3) := by decide +kernel
theorem dX11_send_91 : decode cX11_send 91 = .ok (.goto (-57), 3) := by decide +kernel
theorem dX11_send_94 : decode cX11_send 94 = .ok (.iload_n 2, 1) := by decide +kernel
theorem dX11_send_95 : decode cX11_send 95 = .ok (.iconst (-1), 1) := by decide +kernel
theorem dX11_send_96 : decode cX11_send 96 = .ok (.if_icmp .ne 6, 3) := by decide +kernel
theorem dX11_send_99 : decode cX11_send 99 = .ok (.bipush (-2), 2) := by decide +kernel
theorem dX11_send_101 : decode cX11_send 101 = .ok (.ireturn, 1) := by decide +kernel
theorem dX11_send_102 : decode cX11_send 102 = .ok (.aload_n 0, 1) := by decide +kernel
theorem dX11_send_103 : decode cX11_send 103 = .ok (.iconst 0, 1) := by decide +kernel
theorem dX11_send_104 : decode cX11_send 104 = .ok (.putfield 240, 3) := by decide +kernel
theorem dX11_send_107 : decode cX11_send 107 = .ok (.aload_n 0, 1) := by decide +kernel
theorem dX11_send_108 : decode cX11_send 108 = .ok (.iload_n 3, 1) := by decide +kernel
theorem dX11_send_109 : decode cX11_send 109 = .ok (.i2l, 1) := by decide +kernel
theorem dX11_send_110 : decode cX11_send 110 = .ok (.invokevirtual 269, 3) := by decide +kernel
theorem dX11_send_113 : decode cX11_send 113 = .ok (.iload_n 2, 1) := by decide +kernel
theorem dX11_send_114 : decode cX11_send 114 = .ok (.ireturn, 1) := by decide +kernel
set_option maxRecDepth 100000 in
set_option maxHeartbeats 4000000 in
theorem B_X11_send_0 {κ : Nat → List Value → List Value → m2M → Prop} {D : Nat} {Q : Option Value → m2M → Prop} (h : m2_RL κ cX11_send RX11 6 (D + 1) (some .int) Q) (hD : 1 ≤ D) {x1 : Int32} {μ : m2M} (k : ((μ.1 kP 8) = 0 → Q (some (.int (-1))) μ) ∧ (¬ (μ.1 kP 8) = 0 → ((fX9_areFew x1) = 1 → ∃ Q8 : Option Value → m2M → Prop, m2_MT D yX9_prepare cX9_prepare 4 none [.ref kT, .int x1] μ Q8 ∧ ∀ (μ7 : m2M), Q8 none μ7 → (κ 34 [.ref kC, .int x1, .int (-1), .int 0, .int 0, .null] [] μ7)) ∧ (¬ (fX9_areFew x1) = 1 → Q (some (.int (-1))) μ))) : κ 0 [.ref kC, .int x1, .null, .null, .null, .null] [] μ := by
  have hB := h.b
  refine m2_aload_n hB dX11_send_0 rfl ?_
  refine m2_getR hB dX11_send_1 fl_X11_46 sh_kC (c1 := kP) rfl ?_
  refine m2_getI hB dX11_send_4 fl_X11_353 sh_kP rfl ?_
  refine m2_if_eq hB dX11_send_7 (tgt := 17) (by decide) (fun q1 : (μ.1 kP 8) = 0 => ?_) (fun q1 : ¬ (μ.1 kP 8) = 0 => ?_)
  · replace k := k.1 q1
    refine m2_iconst hB dX11_send_17 (v := (-1)) (by decide) ?_
    exact m2_iret h dX11_send_18 k
  · replace k := k.2 q1
    refine m2_iload_n hB dX11_send_10 rfl ?_
    refine m2_invSz hB (as := [.int x1]) dX11_send_11 ms_X11_354 rfl (Nat.le_of_ble_eq_true rfl) rfl (P_X9_areFew (by omega) (x1) _ ) (fun y2 μ3 hq4 => ?_)
    obtain ⟨⟨⟩, hq4⟩ := hq4
    subst μ3
    show κ 14 [.ref kC, .int x1, .null, .null, .null, .null] [.int (if (fX9_areFew x1) = 1 then 1 else 0 : Int32)] μ
    by_cases q5 : (fX9_areFew x1) = 1
    · rw [if_pos q5]
      replace k := k.1 q5
      refine m2_if_ne hB dX11_send_14 (tgt := 19) (by decide) (fun _ => ?_) (fun q => absurd q (by decide))
      refine m2_aload_n hB dX11_send_19 rfl ?_
      refine m2_getR hB dX11_send_20 fl_X11_107 sh_kC (c1 := kT) rfl ?_
      refine m2_iload_n hB dX11_send_23 rfl ?_
      obtain ⟨Q8, hM9, k⟩ := k
      refine m2_invv hB (as := [.int x1]) dX11_send_24 mv_X11_357 rfl sh_kT rfl (Nat.le_of_ble_eq_true rfl) rfl hM9 (fun μ7 hq10 => ?_)
      replace k := k μ7 hq10
      refine m2_iconst hB dX11_send_27 (v := (-1)) (by decide) ?_
      refine m2_istore_n hB (ls' := [.ref kC, .int x1, .int (-1), .null, .null, .null]) dX11_send_28 rfl (by decide) rfl ?_
      refine m2_iconst hB dX11_send_29 (v := 0) (by decide) ?_
      refine m2_istore_n hB (ls' := [.ref kC, .int x1, .int (-1), .int 0, .null, .null]) dX11_send_30 rfl (by decide) rfl ?_
      refine m2_iconst hB dX11_send_31 (v := 0) (by decide) ?_
      refine m2_istore hB (ls' := [.ref kC, .int x1, .int (-1), .int 0, .int 0, .null]) dX11_send_32 (by decide) rfl ?_
      exact k
    · rw [if_neg q5]
      replace k := k.2 q5
      refine m2_if_ne hB dX11_send_14 (tgt := 19) (by decide) (fun q => absurd q (by decide)) (fun _ => ?_)
      refine m2_iconst hB dX11_send_17 (v := (-1)) (by decide) ?_
      exact m2_iret h dX11_send_18 k
set_option maxRecDepth 100000 in
set_option maxHeartbeats 4000000 in
theorem B_X11_send_34 {κ : Nat → List Value → List Value → m2M → Prop} {D : Nat} {Q : Option Value → m2M → Prop} (h : m2_RL κ cX11_send RX11 6 (D + 1) (some .int) Q) {v1 : Int32} {v2 : Int32} {v3 : Int32} {v4 : Int32} {μ : m2M} (k : ((μ.1 kP 8) ≤ v4 → (¬ v2 = (-1) → ∃ Q6 : Option Value → m2M → Prop, m2_MT D yX11_tell cX11_tell 3 none [.ref kC, .long (v3).toInt64] (m2_si μ kC 3 0) Q6 ∧ ∀ (μ5 : m2M), Q6 none μ5 → (Q (some (.int v2)) μ5)) ∧ (v2 = (-1) → Q (some (.int (-2))) μ)) ∧ (¬ (μ.1 kP 8) ≤ v4 → (vp_in v4 8) ∧ (∃ Q12 : Option Value → m2M → Prop, m2_MT D yX9_fewestFrom cX9_fewestFrom 3 (some .int) [.ref kT, .int (μ.1 kP_where (v4).toNatClampNeg)] μ Q12 ∧ ∀ (y10 : Int32) (μ11 : m2M), Q12 (some (.int y10)) μ11 → ((y10 = (-1) → κ 34 [.ref kC, .int v1, .int v2, .int v3, .int (v4 + 1), .null] [] μ11) ∧ (¬ y10 = (-1) → (v2 = (-1) → κ 34 [.ref kC, .int v1, .int v4, .int y10, .int (v4 + 1), .null] [] μ11) ∧ (¬ v2 = (-1) → (v3 ≤ y10 → κ 34 [.ref kC, .int v1, .int v2, .int v3, .int (v4 + 1), .null] [] μ11) ∧ (¬ v3 ≤ y10 → κ 34 [.ref kC, .int v1, .int v4, .int y10, .int (v4 + 1), .null] [] μ11))))))) : κ 34 [.ref kC, .int v1, .int v2, .int v3, .int v4, .null] [] μ := by
  have hB := h.b
  refine m2_iload hB dX11_send_34 rfl ?_
  refine m2_aload_n hB dX11_send_36 rfl ?_
  refine m2_getR hB dX11_send_37 fl_X11_46 sh_kC (c1 := kP) rfl ?_
  refine m2_getI hB dX11_send_40 fl_X11_353 sh_kP rfl ?_
  refine m2_icmp_ge hB dX11_send_43 (tgt := 94) (by decide) (fun q2 : (μ.1 kP 8) ≤ v4 => ?_) (fun q2 : ¬ (μ.1 kP 8) ≤ v4 => ?_)
  · replace k := k.1 q2
    refine m2_iload_n hB dX11_send_94 rfl ?_
    refine m2_iconst hB dX11_send_95 (v := (-1)) (by decide) ?_
    refine m2_icmp_ne hB dX11_send_96 (tgt := 102) (by decide) (fun q3 : ¬ v2 = (-1) => ?_) (fun q3 : v2 = (-1) => ?_)
    · replace k := k.1 q3
      refine m2_aload_n hB dX11_send_102 rfl ?_
      refine m2_iconst hB dX11_send_103 (v := 0) (by decide) ?_
      refine m2_putI hB dX11_send_104 fl_X11_240 sh_kC rfl ?_
      refine m2_aload_n hB dX11_send_107 rfl ?_
      refine m2_iload_n hB dX11_send_108 rfl ?_
      refine m2_i2l hB dX11_send_109 ?_
      obtain ⟨Q6, hM7, k⟩ := k
      refine m2_invv hB (as := [.long (v3).toInt64]) dX11_send_110 mv_X11_269 rfl sh_kC rfl (Nat.le_of_ble_eq_true rfl) rfl hM7 (fun μ5 hq8 => ?_)
      replace k := k μ5 hq8
      refine m2_iload_n hB dX11_send_113 rfl ?_
      exact m2_iret h dX11_send_114 k
    · replace k := k.2 q3
      refine m2_bipush hB dX11_send_99 (v := (-2)) (by decide) ?_
      exact m2_iret h dX11_send_101 k
  · replace k := k.2 q2
    refine m2_aload_n hB dX11_send_46 rfl ?_
    refine m2_getR hB dX11_send_47 fl_X11_107 sh_kC (c1 := kT) rfl ?_
    refine m2_aload_n hB dX11_send_50 rfl ?_
    refine m2_getR hB dX11_send_51 fl_X11_46 sh_kC (c1 := kP) rfl ?_
    refine m2_getR hB dX11_send_54 fl_X11_167 sh_kP (c1 := kP_where) rfl ?_
    refine m2_iload hB dX11_send_57 rfl ?_
    obtain ⟨hi9, k⟩ := k
    refine m2_iald hB dX11_send_59 sh_kP_where hi9 ?_
    obtain ⟨Q12, hM13, k⟩ := k
    refine m2_invi hB (as := [.int (μ.1 kP_where (v4).toNatClampNeg)]) dX11_send_60 mv_X11_360 rfl sh_kT rfl (Nat.le_of_ble_eq_true rfl) rfl hM13 (fun y10 μ11 hq14 => ?_)
    replace k := k y10 μ11 hq14
    refine m2_istore hB (ls' := [.ref kC, .int v1, .int v2, .int v3, .int v4, .int y10]) dX11_send_63 (by decide) rfl ?_
    refine m2_iload hB dX11_send_65 rfl ?_
    refine m2_iconst hB dX11_send_67 (v := (-1)) (by decide) ?_
    refine m2_icmp_eq hB dX11_send_68 (tgt := 88) (by decide) (fun q15 : y10 = (-1) => ?_) (fun q15 : ¬ y10 = (-1) => ?_)
    · replace k := k.1 q15
      refine m2_iinc hB (ls' := [.ref kC, .int v1, .int v2, .int v3, .int (v4 + 1), .int y10]) (v := (v4 + 1)) dX11_send_88 rfl (by decide) rfl rfl ?_
      refine m2_goto hB dX11_send_91 (tgt := 34) (by decide) ?_
      exact m2_weak (ls' := [.ref kC, .int v1, .int v2, .int v3, .int (v4 + 1), .null]) hB ⟨Or.inr rfl, Or.inr rfl, Or.inr rfl, Or.inr rfl, Or.inr rfl, Or.inl rfl, trivial⟩ k
    · replace k := k.2 q15
      refine m2_iload_n hB dX11_send_71 rfl ?_
      refine m2_iconst hB dX11_send_72 (v := (-1)) (by decide) ?_
      refine m2_icmp_eq hB dX11_send_73 (tgt := 82) (by decide) (fun q16 : v2 = (-1) => ?_) (fun q16 : ¬ v2 = (-1) => ?_)
      · replace k := k.1 q16
        refine m2_iload hB dX11_send_82 rfl ?_
        refine m2_istore_n hB (ls' := [.ref kC, .int v1, .int v4, .int v3, .int v4, .int y10]) dX11_send_84 rfl (by decide) rfl ?_
        refine m2_iload hB dX11_send_85 rfl ?_
        refine m2_istore_n hB (ls' := [.ref kC, .int v1, .int v4, .int y10, .int v4, .int y10]) dX11_send_87 rfl (by decide) rfl ?_
        refine m2_iinc hB (ls' := [.ref kC, .int v1, .int v4, .int y10, .int (v4 + 1), .int y10]) (v := (v4 + 1)) dX11_send_88 rfl (by decide) rfl rfl ?_
        refine m2_goto hB dX11_send_91 (tgt := 34) (by decide) ?_
        exact m2_weak (ls' := [.ref kC, .int v1, .int v4, .int y10, .int (v4 + 1), .null]) hB ⟨Or.inr rfl, Or.inr rfl, Or.inr rfl, Or.inr rfl, Or.inr rfl, Or.inl rfl, trivial⟩ k
      · replace k := k.2 q16
        refine m2_iload hB dX11_send_76 rfl ?_
        refine m2_iload_n hB dX11_send_78 rfl ?_
        refine m2_icmp_ge hB dX11_send_79 (tgt := 88) (by decide) (fun q17 : v3 ≤ y10 => ?_) (fun q17 : ¬ v3 ≤ y10 => ?_)
        · replace k := k.1 q17
          refine m2_iinc hB (ls' := [.ref kC, .int v1, .int v2, .int v3, .int (v4 + 1), .int y10]) (v := (v4 + 1)) dX11_send_88 rfl (by decide) rfl rfl ?_
          refine m2_goto hB dX11_send_91 (tgt := 34) (by decide) ?_
          exact m2_weak (ls' := [.ref kC, .int v1, .int v2, .int v3, .int (v4 + 1), .null]) hB ⟨Or.inr rfl, Or.inr rfl, Or.inr rfl, Or.inr rfl, Or.inr rfl, Or.inl rfl, trivial⟩ k
        · replace k := k.2 q17
          refine m2_iload hB dX11_send_82 rfl ?_
          refine m2_istore_n hB (ls' := [.ref kC, .int v1, .int v4, .int v3, .int v4, .int y10]) dX11_send_84 rfl (by decide) rfl ?_
          refine m2_iload hB dX11_send_85 rfl ?_
          refine m2_istore_n hB (ls' := [.ref kC, .int v1, .int v4, .int y10, .int v4, .int y10]) dX11_send_87 rfl (by decide) rfl ?_
          refine m2_iinc hB (ls' := [.ref kC, .int v1, .int v4, .int y10, .int (v4 + 1), .int y10]) (v := (v4 + 1)) dX11_send_88 rfl (by decide) rfl rfl ?_
          refine m2_goto hB dX11_send_91 (tgt := 34) (by decide) ?_
          exact m2_weak (ls' := [.ref kC, .int v1, .int v4, .int y10, .int (v4 + 1), .null]) hB ⟨Or.inr rfl, Or.inr rfl, Or.inr rfl, Or.inr rfl, Or.inr rfl, Or.inl rfl, trivial⟩ k
theorem dX11_two_0 : decode cX11_two 0 = .ok (.aload_n 0, 1) := by decide +kernel
theorem dX11_two_1 : decode cX11_two 1 = .ok (.getfield 46, 3) := by decide +kernel
theorem dX11_two_4 : decode cX11_two 4 = .ok (.iload_n 1, 1) := by decide +kernel
theorem dX11_two_5 : decode cX11_two 5 = .ok (.invokevirtual 164, 3) := by decide +kernel
theorem dX11_two_8 : decode cX11_two 8 = .ok (.ifCond .eq 34, 3) := by decide +kernel
theorem dX11_two_11 : decode cX11_two 11 = .ok (.aload_n 0, 1) := by decide +kernel
theorem dX11_two_12 : decode cX11_two 12 = .ok (.getfield 46, 3) := by decide +kernel
theorem dX11_two_15 : decode cX11_two 15 = .ok (.iload_n 3, 1) := by decide +kernel
theorem dX11_two_16 : decode cX11_two 16 = .ok (.invokevirtual 164, 3) := by decide +kernel
theorem dX11_two_19 : decode cX11_two 19 = .ok (.ifCond .eq 23, 3) := by decide +kernel
theorem dX11_two_22 : decode cX11_two 22 = .ok (.iload_n 1, 1) := by decide +kernel
theorem dX11_two_23 : decode cX11_two 23 = .ok (.iload_n 3, 1) := by decide +kernel
theorem dX11_two_24 : decode cX11_two 24 = .ok (.if_icmp .eq 18, 3) := by decide +kernel
theorem dX11_two_27 : decode cX11_two 27 = .ok (.iload_n 2, 1) := by decide +kernel
theorem dX11_two_28 : decode cX11_two 28 = .ok (.invokestatic 219, 3) := by decide +kernel
theorem dX11_two_31 : decode cX11_two 31 = .ok (.ifCond .eq 11, 3) := by decide +kernel
theorem dX11_two_34 : decode cX11_two 34 = .ok (.iload 4, 2) := by decide +kernel
theorem dX11_two_36 : decode cX11_two 36 = .ok (.invokestatic 219, 3) := by decide +kernel
theorem dX11_two_39 : decode cX11_two 39 = .ok (.ifCond .ne 5, 3) := by decide +kernel
theorem dX11_two_42 : decode cX11_two 42 = .ok (.iconst (-1), 1) := by decide +kernel
theorem dX11_two_43 : decode cX11_two 43 = .ok (.ireturn, 1) := by decide +kernel
theorem dX11_two_44 : decode cX11_two 44 = .ok (.aload_n 0, 1) := by decide +kernel
theorem dX11_two_45 : decode cX11_two 45 = .ok (.getfield 46, 3) := by decide +kernel
theorem dX11_two_48 : decode cX11_two 48 = .ok (.getfield 170, 3) := by decide +kernel
theorem dX11_two_51 : decode cX11_two 51 = .ok (.iload_n 1, 1) := by decide +kernel
theorem dX11_two_52 : decode cX11_two 52 = .ok (.baload, 1) := by decide +kernel
theorem dX11_two_53 : decode cX11_two 53 = .ok (.ifCond .ne 19, 3) := by decide +kernel
theorem dX11_two_56 : decode cX11_two 56 = .ok (.aload_n 0, 1) := by decide +kernel
theorem dX11_two_57 : decode cX11_two 57 = .ok (.getfield 46, 3) := by decide +kernel
theorem dX11_two_60 : decode cX11_two 60 = .ok (.getfield 170, 3) := by decide +kernel
theorem dX11_two_63 : decode cX11_two 63 = .ok (.iload_n 3, 1) := by decide +kernel
theorem dX11_two_64 : decode cX11_two 64 = .ok (.baload, 1) := by decide +kernel
theorem dX11_two_65 : decode cX11_two 65 = .ok (.ifCond .ne 7, 3) := by decide +kernel
theorem dX11_two_68 : decode cX11_two 68 = .ok (.iconst 1, 1) := by decide +kernel
theorem dX11_two_69 : decode cX11_two 69 = .ok (.goto 4, 3) := by decide +kernel
theorem dX11_two_72 : decode cX11_two 72 = .ok (.iconst 0, 1) := by decide +kernel
theorem dX11_two_73 : decode cX11_two 73 = .ok (.istore 5, 2) := by decide +kernel
theorem dX11_two_75 : decode cX11_two 75 = .ok (.aload_n 0, 1) := by decide +kernel
theorem dX11_two_76 : decode cX11_two 76 = .ok (.getfield 116, 3) := by decide +kernel
theorem dX11_two_79 : decode cX11_two 79 = .ok (.aload_n 0, 1) := by decide +kernel
theorem dX11_two_80 : decode cX11_two 80 = .ok (.getfield 46, 3) := by decide +kernel
theorem dX11_two_83 : decode cX11_two 83 = .ok (.getfield 167, 3) := by decide +kernel
theorem dX11_two_86 : decode cX11_two 86 = .ok (.iload_n 1, 1) := by decide +kernel
theorem dX11_two_87 : decode cX11_two 87 = .ok (.iaload, 1) := by decide +kernel
theorem dX11_two_88 : decode cX11_two 88 = .ok (.iload_n 2, 1) := by decide +kernel
theorem dX11_two_89 : decode cX11_two 89 = .ok (.aload_n 0, 1) := by decide +kernel
theorem dX11_two_90 : decode cX11_two 90 = .ok (.getfield 46, 3) := by decide +kernel
theorem dX11_two_93 : decode cX11_two 93 = .ok (.getfield 167, 3) := by decide +kernel
theorem dX11_two_96 : decode cX11_two 96 = .ok (.iload_n 3, 1) := by decide +kernel
theorem dX11_two_97 : decode cX11_two 97 = .ok (.iaload, 1) := by decide +kernel
theorem dX11_two_98 : decode cX11_two 98 = .ok (.iload 4, 2) := by decide +kernel
theorem dX11_two_100 : decode cX11_two 100 = .ok (.iload 5, 2) := by decide +kernel
theorem dX11_two_102 : decode cX11_two 102 = .ok (.invokevirtual 370, 3) := by decide +kernel
theorem dX11_two_105 : decode cX11_two 105 = .ok (.istore 6, 2) := by decide +kernel
theorem dX11_two_107 : decode cX11_two 107 = .ok (.iload 6, 2) := by decide +kernel
theorem dX11_two_109 : decode cX11_two 109 = .ok (.iconst (-1), 1) := by decide +kernel
theorem dX11_two_110 : decode cX11_two 110 = .ok (.if_icmp .ne 6, 3) := by decide +kernel
theorem dX11_two_113 : decode cX11_two 113 = .ok (.bipush (-2), 2) := by decide +kernel
theorem dX11_two_115 : decode cX11_two 115 = .ok (.ireturn, 1) := by decide +kernel
theorem dX11_two_116 : decode cX11_two 116 = .ok (.aload_n 0, 1) := by decide +kernel
theorem dX11_two_117 : decode cX11_two 117 = .ok (.iconst 0, 1) := by decide +kernel
theorem dX11_two_118 : decode cX11_two 118 = .ok (.putfield 240, 3) := by decide +kernel
theorem dX11_two_121 : decode cX11_two 121 = .ok (.aload_n 0, 1) := by decide +kernel
theorem dX11_two_122 : decode cX11_two 122 = .ok (.aload_n 0, 1) := by decide +kernel
theorem dX11_two_123 : decode cX11_two 123 = .ok (.getfield 116, 3) := by decide +kernel
theorem dX11_two_126 : decode cX11_two 126 = .ok (.getfield 373, 3) := by decide +kernel
theorem dX11_two_129 : decode cX11_two 129 = .ok (.i2l, 1) := by decide +kernel
theorem dX11_two_130 : decode cX11_two 130 = .ok (.invokevirtual 269, 3) := by decide +kernel
theorem dX11_two_133 : decode cX11_two 133 = .ok (.iconst 0, 1) := by decide +kernel
theorem dX11_two_134 : decode cX11_two 134 = .ok (.istore 7, 2) := by decide +kernel
theorem dX11_two_136 : decode cX11_two 136 = .ok (.iload 7, 2) := by decide +kernel
theorem dX11_two_138 : decode cX11_two 138 = .ok (.aload_n 0, 1) := by decide +kernel
theorem dX11_two_139 : decode cX11_two 139 = .ok (.getfield 116, 3) := by decide +kernel
theorem dX11_two_142 : decode cX11_two 142 = .ok (.getfield 373, 3) := by decide +kernel
theorem dX11_two_145 : decode cX11_two 145 = .ok (.if_icmp .ge 24, 3) := by decide +kernel
theorem dX11_two_148 : decode cX11_two 148 = .ok (.aload_n 0, 1) := by decide +kernel
theorem dX11_two_149 : decode cX11_two 149 = .ok (.aload_n 0, 1) := by decide +kernel
theorem dX11_two_150 : decode cX11_two 150 = .ok (.getfield 116, 3) := by decide +kernel
theorem dX11_two_153 : decode cX11_two 153 = .ok (.getfield 376, 3) := by decide +kernel
theorem dX11_two_156 : decode cX11_two 156 = .ok (.iload 7, 2) := by decide +kernel
theorem dX11_two_158 : decode cX11_two 158 = .ok (.iaload, 1) := by decide +kernel
theorem dX11_two_159 : decode cX11_two 159 = .ok (.i2l, 1) := by decide +kernel
theorem dX11_two_160 : decode cX11_two 160 = .ok (.invokevirtual 269, 3) := by decide +kernel
theorem dX11_two_163 : decode cX11_two 163 = .ok (.iinc 7 1, 3) := by decide +kernel
theorem dX11_two_166 : decode cX11_two 166 = .ok (.goto (-30), 3) := by decide +kernel
theorem dX11_two_169 : decode cX11_two 169 = .ok (.iconst 0, 1) := by decide +kernel
theorem dX11_two_170 : decode cX11_two 170 = .ok (.istore 7, 2) := by decide +kernel
theorem dX11_two_172 : decode cX11_two 172 = .ok (.iload 7, 2) := by decide +kernel
theorem dX11_two_174 : decode cX11_two 174 = .ok (.aload_n 0, 1) := by decide +kernel
theorem dX11_two_175 : decode cX11_two 175 = .ok (.getfield 116, 3) := by decide +kernel
theorem dX11_two_178 : decode cX11_two 178 = .ok (.getfield 377, 3) := by decide +kernel
theorem dX11_two_181 : decode cX11_two 181 = .ok (.if_icmp .ge 24, 3) := by decide +kernel
theorem dX11_two_184 : decode cX11_two 184 = .ok (.aload_n 0, 1) := by decide +kernel
theorem dX11_two_185 : decode cX11_two 185 = .ok (.aload_n 0, 1) := by decide +kernel
theorem dX11_two_186 : decode cX11_two 186 = .ok (.getfield 116, 3) := by decide +kernel
theorem dX11_two_189 : decode cX11_two 189 = .ok (.getfield 380, 3) := by decide +kernel
theorem dX11_two_192 : decode cX11_two 192 = .ok (.iload 7, 2) := by decide +kernel
theorem dX11_two_194 : decode cX11_two 194 = .ok (.iaload, 1) := by decide +kernel
theorem dX11_two_195 : decode cX11_two 195 = .ok (.i2l, 1) := by decide +kernel
theorem dX11_two_196 : decode cX11_two 196 = .ok (.invokevirtual 269, 3) := by decide +kernel
theorem dX11_two_199 : decode cX11_two 199 = .ok (.iinc 7 1, 3) := by decide +kernel
theorem dX11_two_202 : decode cX11_two 202 = .ok (.goto (-30), 3) := by decide +kernel
theorem dX11_two_205 : decode cX11_two 205 = .ok (.iload 6, 2) := by decide +kernel
theorem dX11_two_207 : decode cX11_two 207 = .ok (.ireturn, 1) := by decide +kernel
set_option maxRecDepth 100000 in
set_option maxHeartbeats 4000000 in
theorem B_X11_two_0 {κ : Nat → List Value → List Value → m2M → Prop} {D : Nat} {Q : Option Value → m2M → Prop} (h : m2_RL κ cX11_two RX11 8 (D + 1) (some .int) Q) (hD : 0 ≤ D) {x1 : Int32} {x2 : Int32} {x3 : Int32} {x4 : Int32} {μ : m2M} (k : ((fX6_has x1 μ) = 1 → ((fX6_has x3 μ) = 1 → (x1 = x3 → Q (some (.int (-1))) μ) ∧ (¬ x1 = x3 → ((fX11_isRoom x2) = 1 → ((fX11_isRoom x4) = 1 → (vp_in x1 8) ∧ ((¬ (μ.1 kP_stranger (x1).toNatClampNeg) = 0 → (vp_in x3 8) ∧ (∃ Q25 : Option Value → m2M → Prop, m2_MT D yX5_search cX5_search 6 (some .int) [.ref kA, .int (μ.1 kP_where (x1).toNatClampNeg), .int x2, .int (μ.1 kP_where (x3).toNatClampNeg), .int x4, .int 0] μ Q25 ∧ ∀ (y23 : Int32) (μ24 : m2M), Q25 (some (.int y23)) μ24 → ((¬ y23 = (-1) → ∃ Q31 : Option Value → m2M → Prop, m2_MT D yX11_tell cX11_tell 3 none [.ref kC, .long ((μ24.1 kA 5)).toInt64] (m2_si μ24 kC 3 0) Q31 ∧ ∀ (μ30 : m2M), Q31 none μ30 → (κ 136 [.ref kC, .int x1, .int x2, .int x3, .int x4, .int 0, .int y23, .int 0] [] μ30)) ∧ (y23 = (-1) → Q (some (.int (-2))) μ24)))) ∧ ((μ.1 kP_stranger (x1).toNatClampNeg) = 0 → (vp_in x3 8) ∧ (∃ Q41 : Option Value → m2M → Prop, m2_MT D yX5_search cX5_search 6 (some .int) [.ref kA, .int (μ.1 kP_where (x1).toNatClampNeg), .int x2, .int (μ.1 kP_where (x3).toNatClampNeg), .int x4, .int (if (μ.1 kP_stranger (x3).toNatClampNeg) = 0 then 1 else 0 : Int32)] μ Q41 ∧ ∀ (y39 : Int32) (μ40 : m2M), Q41 (some (.int y39)) μ40 → ((¬ y39 = (-1) → ∃ Q47 : Option Value → m2M → Prop, m2_MT D yX11_tell cX11_tell 3 none [.ref kC, .long ((μ40.1 kA 5)).toInt64] (m2_si μ40 kC 3 0) Q47 ∧ ∀ (μ46 : m2M), Q47 none μ46 → (κ 136 [.ref kC, .int x1, .int x2, .int x3, .int x4, .int (if (μ.1 kP_stranger (x3).toNatClampNeg) = 0 then 1 else 0 : Int32), .int y39, .int 0] [] μ46)) ∧ (y39 = (-1) → Q (some (.int (-2))) μ40)))))) ∧ (¬ (fX11_isRoom x4) = 1 → Q (some (.int (-1))) μ)) ∧ (¬ (fX11_isRoom x2) = 1 → Q (some (.int (-1))) μ))) ∧ (¬ (fX6_has x3 μ) = 1 → Q (some (.int (-1))) μ)) ∧ (¬ (fX6_has x1 μ) = 1 → Q (some (.int (-1))) μ)) : κ 0 [.ref kC, .int x1, .int x2, .int x3, .int x4, .null, .null, .null] [] μ := by
  have hB := h.b
  refine m2_aload_n hB dX11_two_0 rfl ?_
  refine m2_getR hB dX11_two_1 fl_X11_46 sh_kC (c1 := kP) rfl ?_
  refine m2_iload_n hB dX11_two_4 rfl ?_
  refine m2_invz hB (as := [.int x1]) dX11_two_5 mv_X11_164 rfl sh_kP rfl (Nat.le_of_ble_eq_true rfl) rfl (P_X6_has (by omega) (x1) _ ) (fun y1 μ2 hq3 => ?_)
  obtain ⟨⟨⟩, hq3⟩ := hq3
  subst μ2
  show κ 8 [.ref kC, .int x1, .int x2, .int x3, .int x4, .null, .null, .null] [.int (if (fX6_has x1 μ) = 1 then 1 else 0 : Int32)] μ
  by_cases q4 : (fX6_has x1 μ) = 1
  · rw [if_pos q4]
    replace k := k.1 q4
    refine m2_if_eq hB dX11_two_8 (tgt := 42) (by decide) (fun q => absurd q (by decide)) (fun _ => ?_)
    refine m2_aload_n hB dX11_two_11 rfl ?_
    refine m2_getR hB dX11_two_12 fl_X11_46 sh_kC (c1 := kP) rfl ?_
    refine m2_iload_n hB dX11_two_15 rfl ?_
    refine m2_invz hB (as := [.int x3]) dX11_two_16 mv_X11_164 rfl sh_kP rfl (Nat.le_of_ble_eq_true rfl) rfl (P_X6_has (by omega) (x3) _ ) (fun y5 μ6 hq7 => ?_)
    obtain ⟨⟨⟩, hq7⟩ := hq7
    subst μ6
    show κ 19 [.ref kC, .int x1, .int x2, .int x3, .int x4, .null, .null, .null] [.int (if (fX6_has x3 μ) = 1 then 1 else 0 : Int32)] μ
    by_cases q8 : (fX6_has x3 μ) = 1
    · rw [if_pos q8]
      replace k := k.1 q8
      refine m2_if_eq hB dX11_two_19 (tgt := 42) (by decide) (fun q => absurd q (by decide)) (fun _ => ?_)
      refine m2_iload_n hB dX11_two_22 rfl ?_
      refine m2_iload_n hB dX11_two_23 rfl ?_
      refine m2_icmp_eq hB dX11_two_24 (tgt := 42) (by decide) (fun q9 : x1 = x3 => ?_) (fun q9 : ¬ x1 = x3 => ?_)
      · replace k := k.1 q9
        refine m2_iconst hB dX11_two_42 (v := (-1)) (by decide) ?_
        exact m2_iret h dX11_two_43 k
      · replace k := k.2 q9
        refine m2_iload_n hB dX11_two_27 rfl ?_
        refine m2_invSz hB (as := [.int x2]) dX11_two_28 ms_X11_219 rfl (Nat.le_of_ble_eq_true rfl) rfl (P_X11_isRoom (by omega) (x2) _ ) (fun y10 μ11 hq12 => ?_)
        obtain ⟨⟨⟩, hq12⟩ := hq12
        subst μ11
        show κ 31 [.ref kC, .int x1, .int x2, .int x3, .int x4, .null, .null, .null] [.int (if (fX11_isRoom x2) = 1 then 1 else 0 : Int32)] μ
        by_cases q13 : (fX11_isRoom x2) = 1
        · rw [if_pos q13]
          replace k := k.1 q13
          refine m2_if_eq hB dX11_two_31 (tgt := 42) (by decide) (fun q => absurd q (by decide)) (fun _ => ?_)
          refine m2_iload hB dX11_two_34 rfl ?_
          refine m2_invSz hB (as := [.int x4]) dX11_two_36 ms_X11_219 rfl (Nat.le_of_ble_eq_true rfl) rfl (P_X11_isRoom (by omega) (x4) _ ) (fun y14 μ15 hq16 => ?_)
          obtain ⟨⟨⟩, hq16⟩ := hq16
          subst μ15
          show κ 39 [.ref kC, .int x1, .int x2, .int x3, .int x4, .null, .null, .null] [.int (if (fX11_isRoom x4) = 1 then 1 else 0 : Int32)] μ
          by_cases q17 : (fX11_isRoom x4) = 1
          · rw [if_pos q17]
            replace k := k.1 q17
            refine m2_if_ne hB dX11_two_39 (tgt := 44) (by decide) (fun _ => ?_) (fun q => absurd q (by decide))
            refine m2_aload_n hB dX11_two_44 rfl ?_
            refine m2_getR hB dX11_two_45 fl_X11_46 sh_kC (c1 := kP) rfl ?_
            refine m2_getR hB dX11_two_48 fl_X11_170 sh_kP (c1 := kP_stranger) rfl ?_
            refine m2_iload_n hB dX11_two_51 rfl ?_
            obtain ⟨hi18, k⟩ := k
            refine m2_zald hB dX11_two_52 sh_kP_stranger hi18 ?_
            refine m2_if_ne hB dX11_two_53 (tgt := 72) (by decide) (fun q20 : ¬ (μ.1 kP_stranger (x1).toNatClampNeg) = 0 => ?_) (fun q20 : (μ.1 kP_stranger (x1).toNatClampNeg) = 0 => ?_)
            · replace k := k.1 q20
              refine m2_iconst hB dX11_two_72 (v := 0) (by decide) ?_
              refine m2_istore hB (ls' := [.ref kC, .int x1, .int x2, .int x3, .int x4, .int 0, .null, .null]) dX11_two_73 (by decide) rfl ?_
              refine m2_aload_n hB dX11_two_75 rfl ?_
              refine m2_getR hB dX11_two_76 fl_X11_116 sh_kC (c1 := kA) rfl ?_
              refine m2_aload_n hB dX11_two_79 rfl ?_
              refine m2_getR hB dX11_two_80 fl_X11_46 sh_kC (c1 := kP) rfl ?_
              refine m2_getR hB dX11_two_83 fl_X11_167 sh_kP (c1 := kP_where) rfl ?_
              refine m2_iload_n hB dX11_two_86 rfl ?_
              have hi21 := hi18
              refine m2_iald hB dX11_two_87 sh_kP_where hi21 ?_
              refine m2_iload_n hB dX11_two_88 rfl ?_
              refine m2_aload_n hB dX11_two_89 rfl ?_
              refine m2_getR hB dX11_two_90 fl_X11_46 sh_kC (c1 := kP) rfl ?_
              refine m2_getR hB dX11_two_93 fl_X11_167 sh_kP (c1 := kP_where) rfl ?_
              refine m2_iload_n hB dX11_two_96 rfl ?_
              obtain ⟨hi22, k⟩ := k
              refine m2_iald hB dX11_two_97 sh_kP_where hi22 ?_
              refine m2_iload hB dX11_two_98 rfl ?_
              refine m2_iload hB dX11_two_100 rfl ?_
              obtain ⟨Q25, hM26, k⟩ := k
              refine m2_invi hB (as := [.int (μ.1 kP_where (x1).toNatClampNeg), .int x2, .int (μ.1 kP_where (x3).toNatClampNeg), .int x4, .int 0]) dX11_two_102 mv_X11_370 rfl sh_kA rfl (Nat.le_of_ble_eq_true rfl) rfl hM26 (fun y23 μ24 hq27 => ?_)
              replace k := k y23 μ24 hq27
              refine m2_istore hB (ls' := [.ref kC, .int x1, .int x2, .int x3, .int x4, .int 0, .int y23, .null]) dX11_two_105 (by decide) rfl ?_
              refine m2_iload hB dX11_two_107 rfl ?_
              refine m2_iconst hB dX11_two_109 (v := (-1)) (by decide) ?_
              refine m2_icmp_ne hB dX11_two_110 (tgt := 116) (by decide) (fun q28 : ¬ y23 = (-1) => ?_) (fun q28 : y23 = (-1) => ?_)
              · replace k := k.1 q28
                refine m2_aload_n hB dX11_two_116 rfl ?_
                refine m2_iconst hB dX11_two_117 (v := 0) (by decide) ?_
                refine m2_putI hB dX11_two_118 fl_X11_240 sh_kC rfl ?_
                refine m2_aload_n hB dX11_two_121 rfl ?_
                refine m2_aload_n hB dX11_two_122 rfl ?_
                refine m2_getR hB dX11_two_123 fl_X11_116 sh_kC (c1 := kA) rfl ?_
                refine m2_getI hB dX11_two_126 fl_X11_373 sh_kA rfl ?_
                refine m2_i2l hB dX11_two_129 ?_
                obtain ⟨Q31, hM32, k⟩ := k
                refine m2_invv hB (as := [.long ((μ24.1 kA 5)).toInt64]) dX11_two_130 mv_X11_269 rfl sh_kC rfl (Nat.le_of_ble_eq_true rfl) rfl hM32 (fun μ30 hq33 => ?_)
                replace k := k μ30 hq33
                refine m2_iconst hB dX11_two_133 (v := 0) (by decide) ?_
                refine m2_istore hB (ls' := [.ref kC, .int x1, .int x2, .int x3, .int x4, .int 0, .int y23, .int 0]) dX11_two_134 (by decide) rfl ?_
                exact k
              · replace k := k.2 q28
                refine m2_bipush hB dX11_two_113 (v := (-2)) (by decide) ?_
                exact m2_iret h dX11_two_115 k
            · replace k := k.2 q20
              refine m2_aload_n hB dX11_two_56 rfl ?_
              refine m2_getR hB dX11_two_57 fl_X11_46 sh_kC (c1 := kP) rfl ?_
              refine m2_getR hB dX11_two_60 fl_X11_170 sh_kP (c1 := kP_stranger) rfl ?_
              refine m2_iload_n hB dX11_two_63 rfl ?_
              obtain ⟨hi34, k⟩ := k
              refine m2_zald hB dX11_two_64 sh_kP_stranger hi34 ?_
              have G36 : κ 73 [.ref kC, .int x1, .int x2, .int x3, .int x4, .null, .null, .null] [.int (if (μ.1 kP_stranger (x3).toNatClampNeg) = 0 then 1 else 0 : Int32)] μ := by
                refine m2_istore hB (ls' := [.ref kC, .int x1, .int x2, .int x3, .int x4, .int (if (μ.1 kP_stranger (x3).toNatClampNeg) = 0 then 1 else 0 : Int32), .null, .null]) dX11_two_73 (by decide) rfl ?_
                refine m2_aload_n hB dX11_two_75 rfl ?_
                refine m2_getR hB dX11_two_76 fl_X11_116 sh_kC (c1 := kA) rfl ?_
                refine m2_aload_n hB dX11_two_79 rfl ?_
                refine m2_getR hB dX11_two_80 fl_X11_46 sh_kC (c1 := kP) rfl ?_
                refine m2_getR hB dX11_two_83 fl_X11_167 sh_kP (c1 := kP_where) rfl ?_
                refine m2_iload_n hB dX11_two_86 rfl ?_
                have hi37 := hi18
                refine m2_iald hB dX11_two_87 sh_kP_where hi37 ?_
                refine m2_iload_n hB dX11_two_88 rfl ?_
                refine m2_aload_n hB dX11_two_89 rfl ?_
                refine m2_getR hB dX11_two_90 fl_X11_46 sh_kC (c1 := kP) rfl ?_
                refine m2_getR hB dX11_two_93 fl_X11_167 sh_kP (c1 := kP_where) rfl ?_
                refine m2_iload_n hB dX11_two_96 rfl ?_
                have hi38 := hi34
                refine m2_iald hB dX11_two_97 sh_kP_where hi38 ?_
                refine m2_iload hB dX11_two_98 rfl ?_
                refine m2_iload hB dX11_two_100 rfl ?_
                obtain ⟨Q41, hM42, k⟩ := k
                refine m2_invi hB (as := [.int (μ.1 kP_where (x1).toNatClampNeg), .int x2, .int (μ.1 kP_where (x3).toNatClampNeg), .int x4, .int (if (μ.1 kP_stranger (x3).toNatClampNeg) = 0 then 1 else 0 : Int32)]) dX11_two_102 mv_X11_370 rfl sh_kA rfl (Nat.le_of_ble_eq_true rfl) rfl hM42 (fun y39 μ40 hq43 => ?_)
                replace k := k y39 μ40 hq43
                refine m2_istore hB (ls' := [.ref kC, .int x1, .int x2, .int x3, .int x4, .int (if (μ.1 kP_stranger (x3).toNatClampNeg) = 0 then 1 else 0 : Int32), .int y39, .null]) dX11_two_105 (by decide) rfl ?_
                refine m2_iload hB dX11_two_107 rfl ?_
                refine m2_iconst hB dX11_two_109 (v := (-1)) (by decide) ?_
                refine m2_icmp_ne hB dX11_two_110 (tgt := 116) (by decide) (fun q44 : ¬ y39 = (-1) => ?_) (fun q44 : y39 = (-1) => ?_)
                · replace k := k.1 q44
                  refine m2_aload_n hB dX11_two_116 rfl ?_
                  refine m2_iconst hB dX11_two_117 (v := 0) (by decide) ?_
                  refine m2_putI hB dX11_two_118 fl_X11_240 sh_kC rfl ?_
                  refine m2_aload_n hB dX11_two_121 rfl ?_
                  refine m2_aload_n hB dX11_two_122 rfl ?_
                  refine m2_getR hB dX11_two_123 fl_X11_116 sh_kC (c1 := kA) rfl ?_
                  refine m2_getI hB dX11_two_126 fl_X11_373 sh_kA rfl ?_
                  refine m2_i2l hB dX11_two_129 ?_
                  obtain ⟨Q47, hM48, k⟩ := k
                  refine m2_invv hB (as := [.long ((μ40.1 kA 5)).toInt64]) dX11_two_130 mv_X11_269 rfl sh_kC rfl (Nat.le_of_ble_eq_true rfl) rfl hM48 (fun μ46 hq49 => ?_)
                  replace k := k μ46 hq49
                  refine m2_iconst hB dX11_two_133 (v := 0) (by decide) ?_
                  refine m2_istore hB (ls' := [.ref kC, .int x1, .int x2, .int x3, .int x4, .int (if (μ.1 kP_stranger (x3).toNatClampNeg) = 0 then 1 else 0 : Int32), .int y39, .int 0]) dX11_two_134 (by decide) rfl ?_
                  exact k
                · replace k := k.2 q44
                  refine m2_bipush hB dX11_two_113 (v := (-2)) (by decide) ?_
                  exact m2_iret h dX11_two_115 k
              refine m2_if_ne hB dX11_two_65 (tgt := 72) (by decide) (fun q35 : ¬ (μ.1 kP_stranger (x3).toNatClampNeg) = 0 => ?_) (fun q35 : (μ.1 kP_stranger (x3).toNatClampNeg) = 0 => ?_)
              · rw [if_neg q35] at G36
                refine m2_iconst hB dX11_two_72 (v := 0) (by decide) ?_
                exact G36
              · rw [if_pos q35] at G36
                refine m2_iconst hB dX11_two_68 (v := 1) (by decide) ?_
                refine m2_goto hB dX11_two_69 (tgt := 73) (by decide) ?_
                exact G36
          · rw [if_neg q17]
            replace k := k.2 q17
            refine m2_if_ne hB dX11_two_39 (tgt := 44) (by decide) (fun q => absurd q (by decide)) (fun _ => ?_)
            refine m2_iconst hB dX11_two_42 (v := (-1)) (by decide) ?_
            exact m2_iret h dX11_two_43 k
        · rw [if_neg q13]
          replace k := k.2 q13
          refine m2_if_eq hB dX11_two_31 (tgt := 42) (by decide) (fun _ => ?_) (fun q => absurd q (by decide))
          refine m2_iconst hB dX11_two_42 (v := (-1)) (by decide) ?_
          exact m2_iret h dX11_two_43 k
    · rw [if_neg q8]
      replace k := k.2 q8
      refine m2_if_eq hB dX11_two_19 (tgt := 42) (by decide) (fun _ => ?_) (fun q => absurd q (by decide))
      refine m2_iconst hB dX11_two_42 (v := (-1)) (by decide) ?_
      exact m2_iret h dX11_two_43 k
  · rw [if_neg q4]
    replace k := k.2 q4
    refine m2_if_eq hB dX11_two_8 (tgt := 42) (by decide) (fun _ => ?_) (fun q => absurd q (by decide))
    refine m2_iconst hB dX11_two_42 (v := (-1)) (by decide) ?_
    exact m2_iret h dX11_two_43 k
set_option maxRecDepth 100000 in
set_option maxHeartbeats 4000000 in
theorem B_X11_two_136 {κ : Nat → List Value → List Value → m2M → Prop} {D : Nat} {Q : Option Value → m2M → Prop} (h : m2_RL κ cX11_two RX11 8 (D + 1) (some .int) Q) {v1 : Int32} {v2 : Int32} {v3 : Int32} {v4 : Int32} {v5 : Int32} {v6 : Int32} {v7 : Int32} {μ : m2M} (k : ((μ.1 kA 5) ≤ v7 → κ 172 [.ref kC, .int v1, .int v2, .int v3, .int v4, .int v5, .int v6, .int 0] [] μ) ∧ (¬ (μ.1 kA 5) ≤ v7 → (vp_in v7 5) ∧ (∃ Q6 : Option Value → m2M → Prop, m2_MT D yX11_tell cX11_tell 3 none [.ref kC, .long ((μ.1 kA_first (v7).toNatClampNeg)).toInt64] μ Q6 ∧ ∀ (μ5 : m2M), Q6 none μ5 → (κ 136 [.ref kC, .int v1, .int v2, .int v3, .int v4, .int v5, .int v6, .int (v7 + 1)] [] μ5)))) : κ 136 [.ref kC, .int v1, .int v2, .int v3, .int v4, .int v5, .int v6, .int v7] [] μ := by
  have hB := h.b
  refine m2_iload hB dX11_two_136 rfl ?_
  refine m2_aload_n hB dX11_two_138 rfl ?_
  refine m2_getR hB dX11_two_139 fl_X11_116 sh_kC (c1 := kA) rfl ?_
  refine m2_getI hB dX11_two_142 fl_X11_373 sh_kA rfl ?_
  refine m2_icmp_ge hB dX11_two_145 (tgt := 169) (by decide) (fun q2 : (μ.1 kA 5) ≤ v7 => ?_) (fun q2 : ¬ (μ.1 kA 5) ≤ v7 => ?_)
  · replace k := k.1 q2
    refine m2_iconst hB dX11_two_169 (v := 0) (by decide) ?_
    refine m2_istore hB (ls' := [.ref kC, .int v1, .int v2, .int v3, .int v4, .int v5, .int v6, .int 0]) dX11_two_170 (by decide) rfl ?_
    exact k
  · replace k := k.2 q2
    refine m2_aload_n hB dX11_two_148 rfl ?_
    refine m2_aload_n hB dX11_two_149 rfl ?_
    refine m2_getR hB dX11_two_150 fl_X11_116 sh_kC (c1 := kA) rfl ?_
    refine m2_getR hB dX11_two_153 fl_X11_376 sh_kA (c1 := kA_first) rfl ?_
    refine m2_iload hB dX11_two_156 rfl ?_
    obtain ⟨hi3, k⟩ := k
    refine m2_iald hB dX11_two_158 sh_kA_first hi3 ?_
    refine m2_i2l hB dX11_two_159 ?_
    obtain ⟨Q6, hM7, k⟩ := k
    refine m2_invv hB (as := [.long ((μ.1 kA_first (v7).toNatClampNeg)).toInt64]) dX11_two_160 mv_X11_269 rfl sh_kC rfl (Nat.le_of_ble_eq_true rfl) rfl hM7 (fun μ5 hq8 => ?_)
    replace k := k μ5 hq8
    refine m2_iinc hB (ls' := [.ref kC, .int v1, .int v2, .int v3, .int v4, .int v5, .int v6, .int (v7 + 1)]) (v := (v7 + 1)) dX11_two_163 rfl (by decide) rfl rfl ?_
    refine m2_goto hB dX11_two_166 (tgt := 136) (by decide) ?_
    exact k
set_option maxRecDepth 100000 in
set_option maxHeartbeats 4000000 in
theorem B_X11_two_172 {κ : Nat → List Value → List Value → m2M → Prop} {D : Nat} {Q : Option Value → m2M → Prop} (h : m2_RL κ cX11_two RX11 8 (D + 1) (some .int) Q) {v1 : Int32} {v2 : Int32} {v3 : Int32} {v4 : Int32} {v5 : Int32} {v6 : Int32} {v7 : Int32} {μ : m2M} (k : ((μ.1 kA 7) ≤ v7 → Q (some (.int v6)) μ) ∧ (¬ (μ.1 kA 7) ≤ v7 → (vp_in v7 5) ∧ (∃ Q6 : Option Value → m2M → Prop, m2_MT D yX11_tell cX11_tell 3 none [.ref kC, .long ((μ.1 kA_second (v7).toNatClampNeg)).toInt64] μ Q6 ∧ ∀ (μ5 : m2M), Q6 none μ5 → (κ 172 [.ref kC, .int v1, .int v2, .int v3, .int v4, .int v5, .int v6, .int (v7 + 1)] [] μ5)))) : κ 172 [.ref kC, .int v1, .int v2, .int v3, .int v4, .int v5, .int v6, .int v7] [] μ := by
  have hB := h.b
  refine m2_iload hB dX11_two_172 rfl ?_
  refine m2_aload_n hB dX11_two_174 rfl ?_
  refine m2_getR hB dX11_two_175 fl_X11_116 sh_kC (c1 := kA) rfl ?_
  refine m2_getI hB dX11_two_178 fl_X11_377 sh_kA rfl ?_
  refine m2_icmp_ge hB dX11_two_181 (tgt := 205) (by decide) (fun q2 : (μ.1 kA 7) ≤ v7 => ?_) (fun q2 : ¬ (μ.1 kA 7) ≤ v7 => ?_)
  · replace k := k.1 q2
    refine m2_iload hB dX11_two_205 rfl ?_
    exact m2_iret h dX11_two_207 k
  · replace k := k.2 q2
    refine m2_aload_n hB dX11_two_184 rfl ?_
    refine m2_aload_n hB dX11_two_185 rfl ?_
    refine m2_getR hB dX11_two_186 fl_X11_116 sh_kC (c1 := kA) rfl ?_
    refine m2_getR hB dX11_two_189 fl_X11_380 sh_kA (c1 := kA_second) rfl ?_
    refine m2_iload hB dX11_two_192 rfl ?_
    obtain ⟨hi3, k⟩ := k
    refine m2_iald hB dX11_two_194 sh_kA_second hi3 ?_
    refine m2_i2l hB dX11_two_195 ?_
    obtain ⟨Q6, hM7, k⟩ := k
    refine m2_invv hB (as := [.long ((μ.1 kA_second (v7).toNatClampNeg)).toInt64]) dX11_two_196 mv_X11_269 rfl sh_kC rfl (Nat.le_of_ble_eq_true rfl) rfl hM7 (fun μ5 hq8 => ?_)
    replace k := k μ5 hq8
    refine m2_iinc hB (ls' := [.ref kC, .int v1, .int v2, .int v3, .int v4, .int v5, .int v6, .int (v7 + 1)]) (v := (v7 + 1)) dX11_two_199 rfl (by decide) rfl rfl ?_
    refine m2_goto hB dX11_two_202 (tgt := 172) (by decide) ?_
    exact k
theorem dX11_keep_0 : decode cX11_keep 0 = .ok (.aload_n 0, 1) := by decide +kernel
theorem dX11_keep_1 : decode cX11_keep 1 = .ok (.getfield 39, 3) := by decide +kernel
theorem dX11_keep_4 : decode cX11_keep 4 = .ok (.iload_n 1, 1) := by decide +kernel
theorem dX11_keep_5 : decode cX11_keep 5 = .ok (.invokevirtual 130, 3) := by decide +kernel
theorem dX11_keep_8 : decode cX11_keep 8 = .ok (.ifCond .eq 17, 3) := by decide +kernel
theorem dX11_keep_11 : decode cX11_keep 11 = .ok (.iload_n 2, 1) := by decide +kernel
theorem dX11_keep_12 : decode cX11_keep 12 = .ok (.ifCond .lt 13, 3) := by decide +kernel
theorem dX11_keep_15 : decode cX11_keep 15 = .ok (.iload_n 2, 1) := by decide +kernel
theorem dX11_keep_16 : decode cX11_keep 16 = .ok (.bipush 10, 2) := by decide +kernel
theorem dX11_keep_18 : decode cX11_keep 18 = .ok (.if_icmp .gt 7, 3) := by decide +kernel
theorem dX11_keep_21 : decode cX11_keep 21 = .ok (.iconst 1, 1) := by decide +kernel
theorem dX11_keep_22 : decode cX11_keep 22 = .ok (.goto 4, 3) := by decide +kernel
theorem dX11_keep_25 : decode cX11_keep 25 = .ok (.iconst 0, 1) := by decide +kernel
theorem dX11_keep_26 : decode cX11_keep 26 = .ok (.istore 7, 2) := by decide +kernel
theorem dX11_keep_28 : decode cX11_keep 28 = .ok (.iload 7, 2) := by decide +kernel
theorem dX11_keep_30 : decode cX11_keep 30 = .ok (.ifCond .eq 27, 3) := by decide +kernel
theorem dX11_keep_33 : decode cX11_keep 33 = .ok (.iload_n 3, 1) := by decide +kernel
theorem dX11_keep_34 : decode cX11_keep 34 = .ok (.ifCond .lt 23, 3) := by decide +kernel
theorem dX11_keep_37 : decode cX11_keep 37 = .ok (.iload_n 3, 1) := by decide +kernel
theorem dX11_keep_38 : decode cX11_keep 38 = .ok (.bipush 10, 2) := by decide +kernel
theorem dX11_keep_40 : decode cX11_keep 40 = .ok (.if_icmp .gt 17, 3) := by decide +kernel
theorem dX11_keep_43 : decode cX11_keep 43 = .ok (.iload 5, 2) := by decide +kernel
theorem dX11_keep_45 : decode cX11_keep 45 = .ok (.ifCond .lt 12, 3) := by decide +kernel
theorem dX11_keep_48 : decode cX11_keep 48 = .ok (.iload 5, 2) := by decide +kernel
theorem dX11_keep_50 : decode cX11_keep 50 = .ok (.bipush 10, 2) := by decide +kernel
theorem dX11_keep_52 : decode cX11_keep 52 = .ok (.iload_n 3, 1) := by decide +kernel
theorem dX11_keep_53 : decode cX11_keep 53 = .ok (.isub, 1) := by decide +kernel
theorem dX11_keep_54 : decode cX11_keep 54 = .ok (.if_icmp .le 5, 3) := by decide +kernel
theorem dX11_keep_57 : decode cX11_keep 57 = .ok (.iconst (-1), 1) := by decide +kernel
theorem dX11_keep_58 : decode cX11_keep 58 = .ok (.ireturn, 1) := by decide +kernel
theorem dX11_keep_59 : decode cX11_keep 59 = .ok (.iload 4, 2) := by decide +kernel
theorem dX11_keep_61 : decode cX11_keep 61 = .ok (.ifCond .lt 24, 3) := by decide +kernel
theorem dX11_keep_64 : decode cX11_keep 64 = .ok (.iload 4, 2) := by decide +kernel
theorem dX11_keep_66 : decode cX11_keep 66 = .ok (.bipush 99, 2) := by decide +kernel
theorem dX11_keep_68 : decode cX11_keep 68 = .ok (.if_icmp .gt 17, 3) := by decide +kernel
theorem dX11_keep_71 : decode cX11_keep 71 = .ok (.iload 6, 2) := by decide +kernel
theorem dX11_keep_73 : decode cX11_keep 73 = .ok (.iload 4, 2) := by decide +kernel
theorem dX11_keep_75 : decode cX11_keep 75 = .ok (.if_icmp .lt 10, 3) := by decide +kernel
theorem dX11_keep_78 : decode cX11_keep 78 = .ok (.iload 6, 2) := by decide +kernel
theorem dX11_keep_80 : decode cX11_keep 80 = .ok (.bipush 99, 2) := by decide +kernel
theorem dX11_keep_82 : decode cX11_keep 82 = .ok (.if_icmp .le 5, 3) := by decide +kernel
theorem dX11_keep_85 : decode cX11_keep 85 = .ok (.iconst (-1), 1) := by decide +kernel
theorem dX11_keep_86 : decode cX11_keep 86 = .ok (.ireturn, 1) := by decide +kernel
theorem dX11_keep_87 : decode cX11_keep 87 = .ok (.aload_n 0, 1) := by decide +kernel
theorem dX11_keep_88 : decode cX11_keep 88 = .ok (.getfield 39, 3) := by decide +kernel
theorem dX11_keep_91 : decode cX11_keep 91 = .ok (.getfield 158, 3) := by decide +kernel
theorem dX11_keep_94 : decode cX11_keep 94 = .ok (.iload_n 1, 1) := by decide +kernel
theorem dX11_keep_95 : decode cX11_keep 95 = .ok (.iaload, 1) := by decide +kernel
theorem dX11_keep_96 : decode cX11_keep 96 = .ok (.istore 8, 2) := by decide +kernel
theorem dX11_keep_98 : decode cX11_keep 98 = .ok (.aload_n 0, 1) := by decide +kernel
theorem dX11_keep_99 : decode cX11_keep 99 = .ok (.getfield 27, 3) := by decide +kernel
theorem dX11_keep_102 : decode cX11_keep 102 = .ok (.lconst 0, 1) := by decide +kernel
theorem dX11_keep_103 : decode cX11_keep 103 = .ok (.invokestatic 383, 3) := by decide +kernel
theorem dX11_keep_106 : decode cX11_keep 106 = .ok (.lconst 1, 1) := by decide +kernel
theorem dX11_keep_107 : decode cX11_keep 107 = .ok (.lstore 9, 2) := by decide +kernel
theorem dX11_keep_109 : decode cX11_keep 109 = .ok (.iconst 0, 1) := by decide +kernel
theorem dX11_keep_110 : decode cX11_keep 110 = .ok (.istore 11, 2) := by decide +kernel
theorem dX11_keep_112 : decode cX11_keep 112 = .ok (.iconst 0, 1) := by decide +kernel
theorem dX11_keep_113 : decode cX11_keep 113 = .ok (.istore 12, 2) := by decide +kernel
theorem dX11_keep_115 : decode cX11_keep 115 = .ok (.iload 12, 2) := by decide +kernel
theorem dX11_keep_117 : decode cX11_keep 117 = .ok (.iload_n 2, 1) := by decide +kernel
theorem dX11_keep_118 : decode cX11_keep 118 = .ok (.if_icmp .ge 153, 3) := by decide +kernel
theorem dX11_keep_121 : decode cX11_keep 121 = .ok (.iload 8, 2) := by decide +kernel
theorem dX11_keep_123 : decode cX11_keep 123 = .ok (.ifCond .eq 30, 3) := by decide +kernel
theorem dX11_keep_126 : decode cX11_keep 126 = .ok (.iload 4, 2) := by decide +kernel
theorem dX11_keep_128 : decode cX11_keep 128 = .ok (.i2l, 1) := by decide +kernel
theorem dX11_keep_129 : decode cX11_keep 129 = .ok (.lload 9, 2) := by decide +kernel
theorem dX11_keep_131 : decode cX11_keep 131 = .ok (.lmul, 1) := by decide +kernel
theorem dX11_keep_132 : decode cX11_keep 132 = .ok (.aload_n 0, 1) := by decide +kernel
theorem dX11_keep_133 : decode cX11_keep 133 = .ok (.getfield 27, 3) := by decide +kernel
theorem dX11_keep_136 : decode cX11_keep 136 = .ok (.iload 8, 2) := by decide +kernel
theorem dX11_keep_138 : decode cX11_keep 138 = .ok (.iconst 1, 1) := by decide +kernel
theorem dX11_keep_139 : decode cX11_keep 139 = .ok (.isub, 1) := by decide +kernel
theorem dX11_keep_140 : decode cX11_keep 140 = .ok (.laload, 1) := by decide +kernel
theorem dX11_keep_141 : decode cX11_keep 141 = .ok (.ladd, 1) := by decide +kernel
theorem dX11_keep_142 : decode cX11_keep 142 = .ok (.aload_n 0, 1) := by decide +kernel
theorem dX11_keep_143 : decode cX11_keep 143 = .ok (.getfield 27, 3) := by decide +kernel
theorem dX11_keep_146 : decode cX11_keep 146 = .ok (.iload 8, 2) := by decide +kernel
theorem dX11_keep_148 : decode cX11_keep 148 = .ok (.laload, 1) := by decide +kernel
theorem dX11_keep_149 : decode cX11_keep 149 = .ok (.lcmp, 1) := by decide +kernel
theorem dX11_keep_150 : decode cX11_keep 150 = .ok (.ifCond .ge 6, 3) := by decide +kernel
theorem dX11_keep_153 : decode cX11_keep 153 = .ok (.iinc 11 1, 3) := by decide +kernel
theorem dX11_keep_156 : decode cX11_keep 156 = .ok (.iload 8, 2) := by decide +kernel
theorem dX11_keep_158 : decode cX11_keep 158 = .ok (.istore 13, 2) := by decide +kernel
theorem dX11_keep_160 : decode cX11_keep 160 = .ok (.iload 13, 2) := by decide +kernel
theorem dX11_keep_162 : decode cX11_keep 162 = .ok (.ifCond .le 95, 3) := by decide +kernel
theorem dX11_keep_165 : decode cX11_keep 165 = .ok (.aload_n 0, 1) := by decide +kernel
theorem dX11_keep_166 : decode cX11_keep 166 = .ok (.getfield 27, 3) := by decide +kernel
theorem dX11_keep_169 : decode cX11_keep 169 = .ok (.iload 13, 2) := by decide +kernel
theorem dX11_keep_171 : decode cX11_keep 171 = .ok (.laload, 1) := by decide +kernel
theorem dX11_keep_172 : decode cX11_keep 172 = .ok (.lstore 14, 2) := by decide +kernel
theorem dX11_keep_174 : decode cX11_keep 174 = .ok (.iload 4, 2) := by decide +kernel
theorem dX11_keep_176 : decode cX11_keep 176 = .ok (.i2l, 1) := by decide +kernel
theorem dX11_keep_177 : decode cX11_keep 177 = .ok (.lload 9, 2) := by decide +kernel
theorem dX11_keep_179 : decode cX11_keep 179 = .ok (.lmul, 1) := by decide +kernel
theorem dX11_keep_180 : decode cX11_keep 180 = .ok (.aload_n 0, 1) := by decide +kernel
theorem dX11_keep_181 : decode cX11_keep 181 = .ok (.getfield 27, 3) := by decide +kernel
theorem dX11_keep_184 : decode cX11_keep 184 = .ok (.iload 13, 2) := by decide +kernel
theorem dX11_keep_186 : decode cX11_keep 186 = .ok (.iconst 1, 1) := by decide +kernel
theorem dX11_keep_187 : decode cX11_keep 187 = .ok (.isub, 1) := by decide +kernel
theorem dX11_keep_188 : decode cX11_keep 188 = .ok (.laload, 1) := by decide +kernel
theorem dX11_keep_189 : decode cX11_keep 189 = .ok (.ladd, 1) := by decide +kernel
theorem dX11_keep_190 : decode cX11_keep 190 = .ok (.lload 14, 2) := by decide +kernel
theorem dX11_keep_192 : decode cX11_keep 192 = .ok (.invokestatic 386, 3) := by decide +kernel
theorem dX11_keep_195 : decode cX11_keep 195 = .ok (.lstore 16, 2) := by decide +kernel
theorem dX11_keep_197 : decode cX11_keep 197 = .ok (.iload 6, 2) := by decide +kernel
theorem dX11_keep_199 : decode cX11_keep 199 = .ok (.i2l, 1) := by decide +kernel
theorem dX11_keep_200 : decode cX11_keep 200 = .ok (.lload 9, 2) := by decide +kernel
theorem dX11_keep_202 : decode cX11_keep 202 = .ok (.lmul, 1) := by decide +kernel
theorem dX11_keep_203 : decode cX11_keep 203 = .ok (.aload_n 0, 1) := by decide +kernel
theorem dX11_keep_204 : decode cX11_keep 204 = .ok (.getfield 27, 3) := by decide +kernel
theorem dX11_keep_207 : decode cX11_keep 207 = .ok (.iload 13, 2) := by decide +kernel
theorem dX11_keep_209 : decode cX11_keep 209 = .ok (.iconst 1, 1) := by decide +kernel
theorem dX11_keep_210 : decode cX11_keep 210 = .ok (.isub, 1) := by decide +kernel
theorem dX11_keep_211 : decode cX11_keep 211 = .ok (.laload, 1) := by decide +kernel
theorem dX11_keep_212 : decode cX11_keep 212 = .ok (.ladd, 1) := by decide +kernel
theorem dX11_keep_213 : decode cX11_keep 213 = .ok (.lload 14, 2) := by decide +kernel
theorem dX11_keep_215 : decode cX11_keep 215 = .ok (.invokestatic 386, 3) := by decide +kernel
theorem dX11_keep_218 : decode cX11_keep 218 = .ok (.lstore 18, 2) := by decide +kernel
theorem dX11_keep_220 : decode cX11_keep 220 = .ok (.aload_n 0, 1) := by decide +kernel
theorem dX11_keep_221 : decode cX11_keep 221 = .ok (.getfield 27, 3) := by decide +kernel
theorem dX11_keep_224 : decode cX11_keep 224 = .ok (.iload 13, 2) := by decide +kernel
theorem dX11_keep_226 : decode cX11_keep 226 = .ok (.iload_n 3, 1) := by decide +kernel
theorem dX11_keep_227 : decode cX11_keep 227 = .ok (.i2l, 1) := by decide +kernel
theorem dX11_keep_228 : decode cX11_keep 228 = .ok (.lload 16, 2) := by decide +kernel
theorem dX11_keep_230 : decode cX11_keep 230 = .ok (.lmul, 1) := by decide +kernel
theorem dX11_keep_231 : decode cX11_keep 231 = .ok (.iload 5, 2) := by decide +kernel
theorem dX11_keep_233 : decode cX11_keep 233 = .ok (.i2l, 1) := by decide +kernel
theorem dX11_keep_234 : decode cX11_keep 234 = .ok (.lload 18, 2) := by decide +kernel
theorem dX11_keep_236 : decode cX11_keep 236 = .ok (.lmul, 1) := by decide +kernel
theorem dX11_keep_237 : decode cX11_keep 237 = .ok (.ladd, 1) := by decide +kernel
theorem dX11_keep_238 : decode cX11_keep 238 = .ok (.bipush 10, 2) := by decide +kernel
theorem dX11_keep_240 : decode cX11_keep 240 = .ok (.iload_n 3, 1) := by decide +kernel
theorem dX11_keep_241 : decode cX11_keep 241 = .ok (.isub, 1) := by decide +kernel
theorem dX11_keep_242 : decode cX11_keep 242 = .ok (.iload 5, 2) := by decide +kernel
theorem dX11_keep_244 : decode cX11_keep 244 = .ok (.isub, 1) := by decide +kernel
theorem dX11_keep_245 : decode cX11_keep 245 = .ok (.i2l, 1) := by decide +kernel
theorem dX11_keep_246 : decode cX11_keep 246 = .ok (.lload 14, 2) := by decide +kernel
theorem dX11_keep_248 : decode cX11_keep 248 = .ok (.lmul, 1) := by decide +kernel
theorem dX11_keep_249 : decode cX11_keep 249 = .ok (.ladd, 1) := by decide +kernel
theorem dX11_keep_250 : decode cX11_keep 250 = .ok (.lastore, 1) := by decide +kernel
theorem dX11_keep_251 : decode cX11_keep 251 = .ok (.iinc 13 (-1), 3) := by decide +kernel
theorem dX11_keep_254 : decode cX11_keep 254 = .ok (.goto (-94), 3) := by decide +kernel
theorem dX11_keep_257 : decode cX11_keep 257 = .ok (.lload 9, 2) := by decide +kernel
theorem dX11_keep_259 : decode cX11_keep 259 = .ok (.ldc2_w 390, 3) := by decide +kernel
theorem dX11_keep_262 : decode cX11_keep 262 = .ok (.lmul, 1) := by decide +kernel
theorem dX11_keep_263 : decode cX11_keep 263 = .ok (.lstore 9, 2) := by decide +kernel
theorem dX11_keep_265 : decode cX11_keep 265 = .ok (.iinc 12 1, 3) := by decide +kernel
theorem dX11_keep_268 : decode cX11_keep 268 = .ok (.goto (-153), 3) := by decide +kernel
theorem dX11_keep_271 : decode cX11_keep 271 = .ok (.aload_n 0, 1) := by decide +kernel
theorem dX11_keep_272 : decode cX11_keep 272 = .ok (.iconst 0, 1) := by decide +kernel
theorem dX11_keep_273 : decode cX11_keep 273 = .ok (.putfield 240, 3) := by decide +kernel
theorem dX11_keep_276 : decode cX11_keep 276 = .ok (.aload_n 0, 1) := by decide +kernel
theorem dX11_keep_277 : decode cX11_keep 277 = .ok (.aload_n 0, 1) := by decide +kernel
theorem dX11_keep_278 : decode cX11_keep 278 = .ok (.getfield 27, 3) := by decide +kernel
theorem dX11_keep_281 : decode cX11_keep 281 = .ok (.iload 8, 2) := by decide +kernel
theorem dX11_keep_283 : decode cX11_keep 283 = .ok (.laload, 1) := by decide +kernel
theorem dX11_keep_284 : decode cX11_keep 284 = .ok (.invokevirtual 269, 3) := by decide +kernel
theorem dX11_keep_287 : decode cX11_keep 287 = .ok (.aload_n 0, 1) := by decide +kernel
theorem dX11_keep_288 : decode cX11_keep 288 = .ok (.iload 11, 2) := by decide +kernel
theorem dX11_keep_290 : decode cX11_keep 290 = .ok (.i2l, 1) := by decide +kernel
theorem dX11_keep_291 : decode cX11_keep 291 = .ok (.invokevirtual 269, 3) := by decide +kernel
theorem dX11_keep_294 : decode cX11_keep 294 = .ok (.iconst 0, 1) := by decide +kernel
theorem dX11_keep_295 : decode cX11_keep 295 = .ok (.ireturn, 1) := by decide +kernel
set_option maxRecDepth 100000 in
set_option maxHeartbeats 4000000 in
theorem B_X11_keep_0 {κ : Nat → List Value → List Value → m2M → Prop} {D : Nat} {Q : Option Value → m2M → Prop} (h : m2_RL κ cX11_keep RX11 20 (D + 1) (some .int) Q) (hD : 0 ≤ D) {x1 : Int32} {x2 : Int32} {x3 : Int32} {x4 : Int32} {x5 : Int32} {x6 : Int32} {μ : m2M} (k : ((fX0_has x1 μ) = 1 → (x2 < 0 → Q (some (.int (-1))) μ) ∧ (¬ x2 < 0 → (10 < x2 → Q (some (.int (-1))) μ) ∧ (¬ 10 < x2 → (x3 < 0 → Q (some (.int (-1))) μ) ∧ (¬ x3 < 0 → (10 < x3 → Q (some (.int (-1))) μ) ∧ (¬ 10 < x3 → (x5 < 0 → Q (some (.int (-1))) μ) ∧ (¬ x5 < 0 → (x5 ≤ ((10 : Int32) - x3) → (x4 < 0 → Q (some (.int (-1))) μ) ∧ (¬ x4 < 0 → (99 < x4 → Q (some (.int (-1))) μ) ∧ (¬ 99 < x4 → (x6 < x4 → Q (some (.int (-1))) μ) ∧ (¬ x6 < x4 → (x6 ≤ 99 → (vp_in x1 20) ∧ (∃ Q21 : Option Value → m2M → Prop, m2_MT D yJ7_fill_d0a16 cJ7_fill_d0a16 5 none [.ref kC_hopes, .long 0] μ Q21 ∧ ∀ (μ20 : m2M), Q21 none μ20 → (κ 115 [.ref kC, .int x1, .int x2, .int x3, .int x4, .int x5, .int x6, .int 1, .int (μ.1 kD_left (x1).toNatClampNeg), .long 1, .null, .int 0, .int 0, .null, .null, .null, .null, .null, .null, .null] [] μ20))) ∧ (¬ x6 ≤ 99 → Q (some (.int (-1))) μ))))) ∧ (¬ x5 ≤ ((10 : Int32) - x3) → Q (some (.int (-1))) μ))))))) ∧ (¬ (fX0_has x1 μ) = 1 → Q (some (.int (-1))) μ)) : κ 0 [.ref kC, .int x1, .int x2, .int x3, .int x4, .int x5, .int x6, .null, .null, .null, .null, .null, .null, .null, .null, .null, .null, .null, .null, .null] [] μ := by
  have hB := h.b
  refine m2_aload_n hB dX11_keep_0 rfl ?_
  refine m2_getR hB dX11_keep_1 fl_X11_39 sh_kC (c1 := kD) rfl ?_
  refine m2_iload_n hB dX11_keep_4 rfl ?_
  refine m2_invz hB (as := [.int x1]) dX11_keep_5 mv_X11_130 rfl sh_kD rfl (Nat.le_of_ble_eq_true rfl) rfl (P_X0_has (by omega) (x1) _ ) (fun y1 μ2 hq3 => ?_)
  obtain ⟨⟨⟩, hq3⟩ := hq3
  subst μ2
  show κ 8 [.ref kC, .int x1, .int x2, .int x3, .int x4, .int x5, .int x6, .null, .null, .null, .null, .null, .null, .null, .null, .null, .null, .null, .null, .null] [.int (if (fX0_has x1 μ) = 1 then 1 else 0 : Int32)] μ
  by_cases q4 : (fX0_has x1 μ) = 1
  · rw [if_pos q4]
    replace k := k.1 q4
    refine m2_if_eq hB dX11_keep_8 (tgt := 25) (by decide) (fun q => absurd q (by decide)) (fun _ => ?_)
    refine m2_iload_n hB dX11_keep_11 rfl ?_
    have G7 : κ 26 [.ref kC, .int x1, .int x2, .int x3, .int x4, .int x5, .int x6, .null, .null, .null, .null, .null, .null, .null, .null, .null, .null, .null, .null, .null] [.int (if x2 < 0 then 0 else (if 10 < x2 then 0 else 1 : Int32) : Int32)] μ := by
      refine m2_istore hB (ls' := [.ref kC, .int x1, .int x2, .int x3, .int x4, .int x5, .int x6, .int (if x2 < 0 then 0 else (if 10 < x2 then 0 else 1 : Int32) : Int32), .null, .null, .null, .null, .null, .null, .null, .null, .null, .null, .null, .null]) dX11_keep_26 (by decide) rfl ?_
      refine m2_iload hB dX11_keep_28 rfl ?_
      show κ 30 [.ref kC, .int x1, .int x2, .int x3, .int x4, .int x5, .int x6, .int (if x2 < 0 then 0 else (if 10 < x2 then 0 else 1 : Int32) : Int32), .null, .null, .null, .null, .null, .null, .null, .null, .null, .null, .null, .null] [.int (if x2 < 0 then 0 else (if 10 < x2 then 0 else 1 : Int32) : Int32)] μ
      by_cases q8 : x2 < 0
      · rw [if_pos q8]
        replace k := k.1 q8
        refine m2_if_eq hB dX11_keep_30 (tgt := 57) (by decide) (fun _ => ?_) (fun q => absurd q (by decide))
        refine m2_iconst hB dX11_keep_57 (v := (-1)) (by decide) ?_
        exact m2_iret h dX11_keep_58 k
      · rw [if_neg q8]
        replace k := k.2 q8
        show κ 30 [.ref kC, .int x1, .int x2, .int x3, .int x4, .int x5, .int x6, .int (if 10 < x2 then 0 else 1 : Int32), .null, .null, .null, .null, .null, .null, .null, .null, .null, .null, .null, .null] [.int (if 10 < x2 then 0 else 1 : Int32)] μ
        by_cases q9 : 10 < x2
        · rw [if_pos q9]
          replace k := k.1 q9
          refine m2_if_eq hB dX11_keep_30 (tgt := 57) (by decide) (fun _ => ?_) (fun q => absurd q (by decide))
          refine m2_iconst hB dX11_keep_57 (v := (-1)) (by decide) ?_
          exact m2_iret h dX11_keep_58 k
        · rw [if_neg q9]
          replace k := k.2 q9
          refine m2_if_eq hB dX11_keep_30 (tgt := 57) (by decide) (fun q => absurd q (by decide)) (fun _ => ?_)
          refine m2_iload_n hB dX11_keep_33 rfl ?_
          refine m2_if_lt hB dX11_keep_34 (tgt := 57) (by decide) (fun q10 : x3 < 0 => ?_) (fun q10 : ¬ x3 < 0 => ?_)
          · replace k := k.1 q10
            refine m2_iconst hB dX11_keep_57 (v := (-1)) (by decide) ?_
            exact m2_iret h dX11_keep_58 k
          · replace k := k.2 q10
            refine m2_iload_n hB dX11_keep_37 rfl ?_
            refine m2_bipush hB dX11_keep_38 (v := 10) (by decide) ?_
            refine m2_icmp_gt hB dX11_keep_40 (tgt := 57) (by decide) (fun q11 : 10 < x3 => ?_) (fun q11 : ¬ 10 < x3 => ?_)
            · replace k := k.1 q11
              refine m2_iconst hB dX11_keep_57 (v := (-1)) (by decide) ?_
              exact m2_iret h dX11_keep_58 k
            · replace k := k.2 q11
              refine m2_iload hB dX11_keep_43 rfl ?_
              refine m2_if_lt hB dX11_keep_45 (tgt := 57) (by decide) (fun q12 : x5 < 0 => ?_) (fun q12 : ¬ x5 < 0 => ?_)
              · replace k := k.1 q12
                refine m2_iconst hB dX11_keep_57 (v := (-1)) (by decide) ?_
                exact m2_iret h dX11_keep_58 k
              · replace k := k.2 q12
                refine m2_iload hB dX11_keep_48 rfl ?_
                refine m2_bipush hB dX11_keep_50 (v := 10) (by decide) ?_
                refine m2_iload_n hB dX11_keep_52 rfl ?_
                refine m2_isub hB dX11_keep_53 ?_
                refine m2_icmp_le hB dX11_keep_54 (tgt := 59) (by decide) (fun q13 : x5 ≤ ((10 : Int32) - x3) => ?_) (fun q13 : ¬ x5 ≤ ((10 : Int32) - x3) => ?_)
                · replace k := k.1 q13
                  refine m2_iload hB dX11_keep_59 rfl ?_
                  refine m2_if_lt hB dX11_keep_61 (tgt := 85) (by decide) (fun q14 : x4 < 0 => ?_) (fun q14 : ¬ x4 < 0 => ?_)
                  · replace k := k.1 q14
                    refine m2_iconst hB dX11_keep_85 (v := (-1)) (by decide) ?_
                    exact m2_iret h dX11_keep_86 k
                  · replace k := k.2 q14
                    refine m2_iload hB dX11_keep_64 rfl ?_
                    refine m2_bipush hB dX11_keep_66 (v := 99) (by decide) ?_
                    refine m2_icmp_gt hB dX11_keep_68 (tgt := 85) (by decide) (fun q15 : 99 < x4 => ?_) (fun q15 : ¬ 99 < x4 => ?_)
                    · replace k := k.1 q15
                      refine m2_iconst hB dX11_keep_85 (v := (-1)) (by decide) ?_
                      exact m2_iret h dX11_keep_86 k
                    · replace k := k.2 q15
                      refine m2_iload hB dX11_keep_71 rfl ?_
                      refine m2_iload hB dX11_keep_73 rfl ?_
                      refine m2_icmp_lt hB dX11_keep_75 (tgt := 85) (by decide) (fun q16 : x6 < x4 => ?_) (fun q16 : ¬ x6 < x4 => ?_)
                      · replace k := k.1 q16
                        refine m2_iconst hB dX11_keep_85 (v := (-1)) (by decide) ?_
                        exact m2_iret h dX11_keep_86 k
                      · replace k := k.2 q16
                        refine m2_iload hB dX11_keep_78 rfl ?_
                        refine m2_bipush hB dX11_keep_80 (v := 99) (by decide) ?_
                        refine m2_icmp_le hB dX11_keep_82 (tgt := 87) (by decide) (fun q17 : x6 ≤ 99 => ?_) (fun q17 : ¬ x6 ≤ 99 => ?_)
                        · replace k := k.1 q17
                          refine m2_aload_n hB dX11_keep_87 rfl ?_
                          refine m2_getR hB dX11_keep_88 fl_X11_39 sh_kC (c1 := kD) rfl ?_
                          refine m2_getR hB dX11_keep_91 fl_X11_158 sh_kD (c1 := kD_left) rfl ?_
                          refine m2_iload_n hB dX11_keep_94 rfl ?_
                          obtain ⟨hi18, k⟩ := k
                          refine m2_iald hB dX11_keep_95 sh_kD_left hi18 ?_
                          refine m2_istore hB (ls' := [.ref kC, .int x1, .int x2, .int x3, .int x4, .int x5, .int x6, .int 1, .int (μ.1 kD_left (x1).toNatClampNeg), .null, .null, .null, .null, .null, .null, .null, .null, .null, .null, .null]) dX11_keep_96 (by decide) rfl ?_
                          refine m2_aload_n hB dX11_keep_98 rfl ?_
                          refine m2_getR hB dX11_keep_99 fl_X11_27 sh_kC (c1 := kC_hopes) rfl ?_
                          refine m2_lconst hB dX11_keep_102 (v := 0) (by decide) ?_
                          obtain ⟨Q21, hM22, k⟩ := k
                          refine m2_invSv hB (as := [.ref kC_hopes, .long 0]) dX11_keep_103 ms_X11_383 rfl (Nat.le_of_ble_eq_true rfl) rfl hM22 (fun μ20 hq23 => ?_)
                          replace k := k μ20 hq23
                          refine m2_lconst hB dX11_keep_106 (v := 1) (by decide) ?_
                          refine m2_lstore hB (ls' := [.ref kC, .int x1, .int x2, .int x3, .int x4, .int x5, .int x6, .int 1, .int (μ.1 kD_left (x1).toNatClampNeg), .long 1, .null, .null, .null, .null, .null, .null, .null, .null, .null, .null]) dX11_keep_107 (by decide) rfl ?_
                          refine m2_iconst hB dX11_keep_109 (v := 0) (by decide) ?_
                          refine m2_istore hB (ls' := [.ref kC, .int x1, .int x2, .int x3, .int x4, .int x5, .int x6, .int 1, .int (μ.1 kD_left (x1).toNatClampNeg), .long 1, .null, .int 0, .null, .null, .null, .null, .null, .null, .null, .null]) dX11_keep_110 (by decide) rfl ?_
                          refine m2_iconst hB dX11_keep_112 (v := 0) (by decide) ?_
                          refine m2_istore hB (ls' := [.ref kC, .int x1, .int x2, .int x3, .int x4, .int x5, .int x6, .int 1, .int (μ.1 kD_left (x1).toNatClampNeg), .long 1, .null, .int 0, .int 0, .null, .null, .null, .null, .null, .null, .null]) dX11_keep_113 (by decide) rfl ?_
                          exact k
                        · replace k := k.2 q17
                          refine m2_iconst hB dX11_keep_85 (v := (-1)) (by decide) ?_
                          exact m2_iret h dX11_keep_86 k
                · replace k := k.2 q13
                  refine m2_iconst hB dX11_keep_57 (v := (-1)) (by decide) ?_
                  exact m2_iret h dX11_keep_58 k
    refine m2_if_lt hB dX11_keep_12 (tgt := 25) (by decide) (fun q6 : x2 < 0 => ?_) (fun q6 : ¬ x2 < 0 => ?_)
    · rw [if_pos q6] at G7
      refine m2_iconst hB dX11_keep_25 (v := 0) (by decide) ?_
      exact G7
    · rw [if_neg q6] at G7
      refine m2_iload_n hB dX11_keep_15 rfl ?_
      refine m2_bipush hB dX11_keep_16 (v := 10) (by decide) ?_
      have G24 : κ 26 [.ref kC, .int x1, .int x2, .int x3, .int x4, .int x5, .int x6, .null, .null, .null, .null, .null, .null, .null, .null, .null, .null, .null, .null, .null] [.int (if 10 < x2 then 0 else 1 : Int32)] μ := by
        exact G7
      refine m2_icmp_gt hB dX11_keep_18 (tgt := 25) (by decide) (fun q5 : 10 < x2 => ?_) (fun q5 : ¬ 10 < x2 => ?_)
      · rw [if_pos q5] at G24
        refine m2_iconst hB dX11_keep_25 (v := 0) (by decide) ?_
        exact G24
      · rw [if_neg q5] at G24
        refine m2_iconst hB dX11_keep_21 (v := 1) (by decide) ?_
        refine m2_goto hB dX11_keep_22 (tgt := 26) (by decide) ?_
        exact G24
  · rw [if_neg q4]
    replace k := k.2 q4
    refine m2_if_eq hB dX11_keep_8 (tgt := 25) (by decide) (fun _ => ?_) (fun q => absurd q (by decide))
    refine m2_iconst hB dX11_keep_25 (v := 0) (by decide) ?_
    refine m2_istore hB (ls' := [.ref kC, .int x1, .int x2, .int x3, .int x4, .int x5, .int x6, .int 0, .null, .null, .null, .null, .null, .null, .null, .null, .null, .null, .null, .null]) dX11_keep_26 (by decide) rfl ?_
    refine m2_iload hB dX11_keep_28 rfl ?_
    refine m2_if_eq hB dX11_keep_30 (tgt := 57) (by decide) (fun _ => ?_) (fun q => absurd q (by decide))
    refine m2_iconst hB dX11_keep_57 (v := (-1)) (by decide) ?_
    exact m2_iret h dX11_keep_58 k
set_option maxRecDepth 100000 in
set_option maxHeartbeats 4000000 in
theorem B_X11_keep_115 {κ : Nat → List Value → List Value → m2M → Prop} {D : Nat} {Q : Option Value → m2M → Prop} (h : m2_RL κ cX11_keep RX11 20 (D + 1) (some .int) Q) {v1 : Int32} {v2 : Int32} {v3 : Int32} {v4 : Int32} {v5 : Int32} {v6 : Int32} {v7 : Int32} {v8 : Int32} {v9 : Int64} {v11 : Int32} {v12 : Int32} {μ : m2M} (k : (v2 ≤ v12 → (vp_in v8 61) ∧ (∃ Q6 : Option Value → m2M → Prop, m2_MT D yX11_tell cX11_tell 3 none [.ref kC, .long ((μ).2 kC_hopes (v8).toNatClampNeg)] (m2_si μ kC 3 0) Q6 ∧ ∀ (μ5 : m2M), Q6 none μ5 → (∃ Q11 : Option Value → m2M → Prop, m2_MT D yX11_tell cX11_tell 3 none [.ref kC, .long (v11).toInt64] μ5 Q11 ∧ ∀ (μ10 : m2M), Q11 none μ10 → (Q (some (.int 0)) μ10)))) ∧ (¬ v2 ≤ v12 → (v8 = 0 → κ 160 [.ref kC, .int v1, .int v2, .int v3, .int v4, .int v5, .int v6, .int v7, .int v8, .long v9, .null, .int (v11 + 1), .int v12, .int v8, .null, .null, .null, .null, .null, .null] [] μ) ∧ (¬ v8 = 0 → (vp_in (v8 - 1) 61) ∧ ((vp_in v8 61) ∧ (κ 160 [.ref kC, .int v1, .int v2, .int v3, .int v4, .int v5, .int v6, .int v7, .int v8, .long v9, .null, .int (if 0 ≤ (lg_cmp (((v4).toInt64 * v9) + ((μ).2 kC_hopes ((v8 - 1)).toNatClampNeg)) ((μ).2 kC_hopes (v8).toNatClampNeg)) then v11 else (v11 + 1) : Int32), .int v12, .int v8, .null, .null, .null, .null, .null, .null] [] μ))))) : κ 115 [.ref kC, .int v1, .int v2, .int v3, .int v4, .int v5, .int v6, .int v7, .int v8, .long v9, .null, .int v11, .int v12, .null, .null, .null, .null, .null, .null, .null] [] μ := by
  have hB := h.b
  refine m2_iload hB dX11_keep_115 rfl ?_
  refine m2_iload_n hB dX11_keep_117 rfl ?_
  refine m2_icmp_ge hB dX11_keep_118 (tgt := 271) (by decide) (fun q2 : v2 ≤ v12 => ?_) (fun q2 : ¬ v2 ≤ v12 => ?_)
  · replace k := k.1 q2
    refine m2_aload_n hB dX11_keep_271 rfl ?_
    refine m2_iconst hB dX11_keep_272 (v := 0) (by decide) ?_
    refine m2_putI hB dX11_keep_273 fl_X11_240 sh_kC rfl ?_
    refine m2_aload_n hB dX11_keep_276 rfl ?_
    refine m2_aload_n hB dX11_keep_277 rfl ?_
    refine m2_getR hB dX11_keep_278 fl_X11_27 sh_kC (c1 := kC_hopes) rfl ?_
    refine m2_iload hB dX11_keep_281 rfl ?_
    obtain ⟨hi3, k⟩ := k
    refine m2_lald hB dX11_keep_283 sh_kC_hopes hi3 ?_
    obtain ⟨Q6, hM7, k⟩ := k
    refine m2_invv hB (as := [.long ((μ).2 kC_hopes (v8).toNatClampNeg)]) dX11_keep_284 mv_X11_269 rfl sh_kC rfl (Nat.le_of_ble_eq_true rfl) rfl hM7 (fun μ5 hq8 => ?_)
    replace k := k μ5 hq8
    refine m2_aload_n hB dX11_keep_287 rfl ?_
    refine m2_iload hB dX11_keep_288 rfl ?_
    refine m2_i2l hB dX11_keep_290 ?_
    obtain ⟨Q11, hM12, k⟩ := k
    refine m2_invv hB (as := [.long (v11).toInt64]) dX11_keep_291 mv_X11_269 rfl sh_kC rfl (Nat.le_of_ble_eq_true rfl) rfl hM12 (fun μ10 hq13 => ?_)
    replace k := k μ10 hq13
    refine m2_iconst hB dX11_keep_294 (v := 0) (by decide) ?_
    exact m2_iret h dX11_keep_295 k
  · replace k := k.2 q2
    refine m2_iload hB dX11_keep_121 rfl ?_
    refine m2_if_eq hB dX11_keep_123 (tgt := 153) (by decide) (fun q15 : v8 = 0 => ?_) (fun q15 : ¬ v8 = 0 => ?_)
    · replace k := k.1 q15
      refine m2_iinc hB (ls' := [.ref kC, .int v1, .int v2, .int v3, .int v4, .int v5, .int v6, .int v7, .int v8, .long v9, .null, .int (v11 + 1), .int v12, .null, .null, .null, .null, .null, .null, .null]) (v := (v11 + 1)) dX11_keep_153 rfl (by decide) rfl rfl ?_
      refine m2_iload hB dX11_keep_156 rfl ?_
      refine m2_istore hB (ls' := [.ref kC, .int v1, .int v2, .int v3, .int v4, .int v5, .int v6, .int v7, .int v8, .long v9, .null, .int (v11 + 1), .int v12, .int v8, .null, .null, .null, .null, .null, .null]) dX11_keep_158 (by decide) rfl ?_
      exact k
    · replace k := k.2 q15
      refine m2_iload hB dX11_keep_126 rfl ?_
      refine m2_i2l hB dX11_keep_128 ?_
      refine m2_lload hB dX11_keep_129 rfl ?_
      refine m2_lmul hB dX11_keep_131 ?_
      refine m2_aload_n hB dX11_keep_132 rfl ?_
      refine m2_getR hB dX11_keep_133 fl_X11_27 sh_kC (c1 := kC_hopes) rfl ?_
      refine m2_iload hB dX11_keep_136 rfl ?_
      refine m2_iconst hB dX11_keep_138 (v := 1) (by decide) ?_
      refine m2_isub hB dX11_keep_139 ?_
      obtain ⟨hi16, k⟩ := k
      refine m2_lald hB dX11_keep_140 sh_kC_hopes hi16 ?_
      refine m2_ladd hB dX11_keep_141 ?_
      refine m2_aload_n hB dX11_keep_142 rfl ?_
      refine m2_getR hB dX11_keep_143 fl_X11_27 sh_kC (c1 := kC_hopes) rfl ?_
      refine m2_iload hB dX11_keep_146 rfl ?_
      obtain ⟨hi17, k⟩ := k
      refine m2_lald hB dX11_keep_148 sh_kC_hopes hi17 ?_
      refine m2_lcmp hB dX11_keep_149 ?_
      have G19 : κ 156 [.ref kC, .int v1, .int v2, .int v3, .int v4, .int v5, .int v6, .int v7, .int v8, .long v9, .null, .int (if 0 ≤ (lg_cmp (((v4).toInt64 * v9) + ((μ).2 kC_hopes ((v8 - 1)).toNatClampNeg)) ((μ).2 kC_hopes (v8).toNatClampNeg)) then v11 else (v11 + 1) : Int32), .int v12, .null, .null, .null, .null, .null, .null, .null] [] μ := by
        refine m2_iload hB dX11_keep_156 rfl ?_
        refine m2_istore hB (ls' := [.ref kC, .int v1, .int v2, .int v3, .int v4, .int v5, .int v6, .int v7, .int v8, .long v9, .null, .int (if 0 ≤ (lg_cmp (((v4).toInt64 * v9) + ((μ).2 kC_hopes ((v8 - 1)).toNatClampNeg)) ((μ).2 kC_hopes (v8).toNatClampNeg)) then v11 else (v11 + 1) : Int32), .int v12, .int v8, .null, .null, .null, .null, .null, .null]) dX11_keep_158 (by decide) rfl ?_
        exact k
      refine m2_if_ge hB dX11_keep_150 (tgt := 156) (by decide) (fun q18 : 0 ≤ (lg_cmp (((v4).toInt64 * v9) + ((μ).2 kC_hopes ((v8 - 1)).toNatClampNeg)) ((μ).2 kC_hopes (v8).toNatClampNeg)) => ?_) (fun q18 : ¬ 0 ≤ (lg_cmp (((v4).toInt64 * v9) + ((μ).2 kC_hopes ((v8 - 1)).toNatClampNeg)) ((μ).2 kC_hopes (v8).toNatClampNeg)) => ?_)
      · rw [if_pos q18] at G19
        exact G19
      · rw [if_neg q18] at G19
        refine m2_iinc hB (ls' := [.ref kC, .int v1, .int v2, .int v3, .int v4, .int v5, .int v6, .int v7, .int v8, .long v9, .null, .int (v11 + 1), .int v12, .null, .null, .null, .null, .null, .null, .null]) (v := (v11 + 1)) dX11_keep_153 rfl (by decide) rfl rfl ?_
        exact G19
set_option maxRecDepth 100000 in
set_option maxHeartbeats 4000000 in
theorem B_X11_keep_160 {κ : Nat → List Value → List Value → m2M → Prop} {D : Nat} {Q : Option Value → m2M → Prop} (h : m2_RL κ cX11_keep RX11 20 (D + 1) (some .int) Q) (hD : 0 ≤ D) {v1 : Int32} {v2 : Int32} {v3 : Int32} {v4 : Int32} {v5 : Int32} {v6 : Int32} {v7 : Int32} {v8 : Int32} {v9 : Int64} {v11 : Int32} {v12 : Int32} {v13 : Int32} {μ : m2M} (k : (v13 ≤ 0 → κ 115 [.ref kC, .int v1, .int v2, .int v3, .int v4, .int v5, .int v6, .int v7, .int v8, .long (v9 * 10), .null, .int v11, .int (v12 + 1), .null, .null, .null, .null, .null, .null, .null] [] μ) ∧ (¬ v13 ≤ 0 → (vp_in v13 61) ∧ ((vp_in (v13 - 1) 61) ∧ (κ 160 [.ref kC, .int v1, .int v2, .int v3, .int v4, .int v5, .int v6, .int v7, .int v8, .long v9, .null, .int v11, .int v12, .int (v13 + (-1)), .null, .null, .null, .null, .null, .null] [] (m2_sl μ kC_hopes (vp_updL ((μ).2 kC_hopes) (v13).toNatClampNeg ((((v3).toInt64 * (m2_maxl (((v4).toInt64 * v9) + ((μ).2 kC_hopes ((v13 - 1)).toNatClampNeg)) ((μ).2 kC_hopes (v13).toNatClampNeg))) + ((v5).toInt64 * (m2_maxl (((v6).toInt64 * v9) + ((μ).2 kC_hopes ((v13 - 1)).toNatClampNeg)) ((μ).2 kC_hopes (v13).toNatClampNeg)))) + (((((10 : Int32) - v3) - v5)).toInt64 * ((μ).2 kC_hopes (v13).toNatClampNeg))))))))) : κ 160 [.ref kC, .int v1, .int v2, .int v3, .int v4, .int v5, .int v6, .int v7, .int v8, .long v9, .null, .int v11, .int v12, .int v13, .null, .null, .null, .null, .null, .null] [] μ := by
  have hB := h.b
  refine m2_iload hB dX11_keep_160 rfl ?_
  refine m2_if_le hB dX11_keep_162 (tgt := 257) (by decide) (fun q2 : v13 ≤ 0 => ?_) (fun q2 : ¬ v13 ≤ 0 => ?_)
  · replace k := k.1 q2
    refine m2_lload hB dX11_keep_257 rfl ?_
    refine m2_ldc2 hB kl_X11_390 dX11_keep_259 ?_
    refine m2_lmul hB dX11_keep_262 ?_
    refine m2_lstore hB (ls' := [.ref kC, .int v1, .int v2, .int v3, .int v4, .int v5, .int v6, .int v7, .int v8, .long (v9 * 10), .null, .int v11, .int v12, .int v13, .null, .null, .null, .null, .null, .null]) dX11_keep_263 (by decide) rfl ?_
    refine m2_iinc hB (ls' := [.ref kC, .int v1, .int v2, .int v3, .int v4, .int v5, .int v6, .int v7, .int v8, .long (v9 * 10), .null, .int v11, .int (v12 + 1), .int v13, .null, .null, .null, .null, .null, .null]) (v := (v12 + 1)) dX11_keep_265 rfl (by decide) rfl rfl ?_
    refine m2_goto hB dX11_keep_268 (tgt := 115) (by decide) ?_
    exact m2_weak (ls' := [.ref kC, .int v1, .int v2, .int v3, .int v4, .int v5, .int v6, .int v7, .int v8, .long (v9 * 10), .null, .int v11, .int (v12 + 1), .null, .null, .null, .null, .null, .null, .null]) hB ⟨Or.inr rfl, Or.inr rfl, Or.inr rfl, Or.inr rfl, Or.inr rfl, Or.inr rfl, Or.inr rfl, Or.inr rfl, Or.inr rfl, Or.inr rfl, Or.inl rfl, Or.inr rfl, Or.inr rfl, Or.inl rfl, Or.inl rfl, Or.inl rfl, Or.inl rfl, Or.inl rfl, Or.inl rfl, Or.inl rfl, trivial⟩ k
  · replace k := k.2 q2
    refine m2_aload_n hB dX11_keep_165 rfl ?_
    refine m2_getR hB dX11_keep_166 fl_X11_27 sh_kC (c1 := kC_hopes) rfl ?_
    refine m2_iload hB dX11_keep_169 rfl ?_
    obtain ⟨hi3, k⟩ := k
    refine m2_lald hB dX11_keep_171 sh_kC_hopes hi3 ?_
    refine m2_lstore hB (ls' := [.ref kC, .int v1, .int v2, .int v3, .int v4, .int v5, .int v6, .int v7, .int v8, .long v9, .null, .int v11, .int v12, .int v13, .long ((μ).2 kC_hopes (v13).toNatClampNeg), .null, .null, .null, .null, .null]) dX11_keep_172 (by decide) rfl ?_
    refine m2_iload hB dX11_keep_174 rfl ?_
    refine m2_i2l hB dX11_keep_176 ?_
    refine m2_lload hB dX11_keep_177 rfl ?_
    refine m2_lmul hB dX11_keep_179 ?_
    refine m2_aload_n hB dX11_keep_180 rfl ?_
    refine m2_getR hB dX11_keep_181 fl_X11_27 sh_kC (c1 := kC_hopes) rfl ?_
    refine m2_iload hB dX11_keep_184 rfl ?_
    refine m2_iconst hB dX11_keep_186 (v := 1) (by decide) ?_
    refine m2_isub hB dX11_keep_187 ?_
    obtain ⟨hi4, k⟩ := k
    refine m2_lald hB dX11_keep_188 sh_kC_hopes hi4 ?_
    refine m2_ladd hB dX11_keep_189 ?_
    refine m2_lload hB dX11_keep_190 rfl ?_
    refine m2_mmax_long hB dX11_keep_192 ms_X11_386 (Nat.le_of_ble_eq_true rfl) ?_
    refine m2_lstore hB (ls' := [.ref kC, .int v1, .int v2, .int v3, .int v4, .int v5, .int v6, .int v7, .int v8, .long v9, .null, .int v11, .int v12, .int v13, .long ((μ).2 kC_hopes (v13).toNatClampNeg), .null, .long (m2_maxl (((v4).toInt64 * v9) + ((μ).2 kC_hopes ((v13 - 1)).toNatClampNeg)) ((μ).2 kC_hopes (v13).toNatClampNeg)), .null, .null, .null]) dX11_keep_195 (by decide) rfl ?_
    refine m2_iload hB dX11_keep_197 rfl ?_
    refine m2_i2l hB dX11_keep_199 ?_
    refine m2_lload hB dX11_keep_200 rfl ?_
    refine m2_lmul hB dX11_keep_202 ?_
    refine m2_aload_n hB dX11_keep_203 rfl ?_
    refine m2_getR hB dX11_keep_204 fl_X11_27 sh_kC (c1 := kC_hopes) rfl ?_
    refine m2_iload hB dX11_keep_207 rfl ?_
    refine m2_iconst hB dX11_keep_209 (v := 1) (by decide) ?_
    refine m2_isub hB dX11_keep_210 ?_
    have hi5 := hi4
    refine m2_lald hB dX11_keep_211 sh_kC_hopes hi5 ?_
    refine m2_ladd hB dX11_keep_212 ?_
    refine m2_lload hB dX11_keep_213 rfl ?_
    refine m2_mmax_long hB dX11_keep_215 ms_X11_386 (Nat.le_of_ble_eq_true rfl) ?_
    refine m2_lstore hB (ls' := [.ref kC, .int v1, .int v2, .int v3, .int v4, .int v5, .int v6, .int v7, .int v8, .long v9, .null, .int v11, .int v12, .int v13, .long ((μ).2 kC_hopes (v13).toNatClampNeg), .null, .long (m2_maxl (((v4).toInt64 * v9) + ((μ).2 kC_hopes ((v13 - 1)).toNatClampNeg)) ((μ).2 kC_hopes (v13).toNatClampNeg)), .null, .long (m2_maxl (((v6).toInt64 * v9) + ((μ).2 kC_hopes ((v13 - 1)).toNatClampNeg)) ((μ).2 kC_hopes (v13).toNatClampNeg)), .null]) dX11_keep_218 (by decide) rfl ?_
    refine m2_aload_n hB dX11_keep_220 rfl ?_
    refine m2_getR hB dX11_keep_221 fl_X11_27 sh_kC (c1 := kC_hopes) rfl ?_
    refine m2_iload hB dX11_keep_224 rfl ?_
    refine m2_iload_n hB dX11_keep_226 rfl ?_
    refine m2_i2l hB dX11_keep_227 ?_
    refine m2_lload hB dX11_keep_228 rfl ?_
    refine m2_lmul hB dX11_keep_230 ?_
    refine m2_iload hB dX11_keep_231 rfl ?_
    refine m2_i2l hB dX11_keep_233 ?_
    refine m2_lload hB dX11_keep_234 rfl ?_
    refine m2_lmul hB dX11_keep_236 ?_
    refine m2_ladd hB dX11_keep_237 ?_
    refine m2_bipush hB dX11_keep_238 (v := 10) (by decide) ?_
    refine m2_iload_n hB dX11_keep_240 rfl ?_
    refine m2_isub hB dX11_keep_241 ?_
    refine m2_iload hB dX11_keep_242 rfl ?_
    refine m2_isub hB dX11_keep_244 ?_
    refine m2_i2l hB dX11_keep_245 ?_
    refine m2_lload hB dX11_keep_246 rfl ?_
    refine m2_lmul hB dX11_keep_248 ?_
    refine m2_ladd hB dX11_keep_249 ?_
    have hi6 := hi3
    refine m2_last hB dX11_keep_250 sh_kC_hopes hi6 ?_
    refine m2_iinc hB (ls' := [.ref kC, .int v1, .int v2, .int v3, .int v4, .int v5, .int v6, .int v7, .int v8, .long v9, .null, .int v11, .int v12, .int (v13 + (-1)), .long ((μ).2 kC_hopes (v13).toNatClampNeg), .null, .long (m2_maxl (((v4).toInt64 * v9) + ((μ).2 kC_hopes ((v13 - 1)).toNatClampNeg)) ((μ).2 kC_hopes (v13).toNatClampNeg)), .null, .long (m2_maxl (((v6).toInt64 * v9) + ((μ).2 kC_hopes ((v13 - 1)).toNatClampNeg)) ((μ).2 kC_hopes (v13).toNatClampNeg)), .null]) (v := (v13 + (-1))) dX11_keep_251 rfl (by decide) rfl rfl ?_
    refine m2_goto hB dX11_keep_254 (tgt := 160) (by decide) ?_
    exact m2_weak (ls' := [.ref kC, .int v1, .int v2, .int v3, .int v4, .int v5, .int v6, .int v7, .int v8, .long v9, .null, .int v11, .int v12, .int (v13 + (-1)), .null, .null, .null, .null, .null, .null]) hB ⟨Or.inr rfl, Or.inr rfl, Or.inr rfl, Or.inr rfl, Or.inr rfl, Or.inr rfl, Or.inr rfl, Or.inr rfl, Or.inr rfl, Or.inr rfl, Or.inl rfl, Or.inr rfl, Or.inr rfl, Or.inr rfl, Or.inl rfl, Or.inl rfl, Or.inl rfl, Or.inl rfl, Or.inl rfl, Or.inl rfl, trivial⟩ k
theorem dX11_sure_0 : decode cX11_sure 0 = .ok (.iload_n 1, 1) := by decide +kernel
theorem dX11_sure_1 : decode cX11_sure 1 = .ok (.iload_n 2, 1) := by decide +kernel
theorem dX11_sure_2 : decode cX11_sure 2 = .ok (.invokestatic 287, 3) := by decide +kernel
theorem dX11_sure_5 : decode cX11_sure 5 = .ok (.ifCond .ne 5, 3) := by decide +kernel
theorem dX11_sure_8 : decode cX11_sure 8 = .ok (.iconst (-1), 1) := by decide +kernel
theorem dX11_sure_9 : decode cX11_sure 9 = .ok (.ireturn, 1) := by decide +kernel
theorem dX11_sure_10 : decode cX11_sure 10 = .ok (.bipush 60, 2) := by decide +kernel
theorem dX11_sure_12 : decode cX11_sure 12 = .ok (.istore_n 3, 1) := by decide +kernel
theorem dX11_sure_13 : decode cX11_sure 13 = .ok (.iload_n 3, 1) := by decide +kernel
theorem dX11_sure_14 : decode cX11_sure 14 = .ok (.ifCond .le 50, 3) := by decide +kernel
theorem dX11_sure_17 : decode cX11_sure 17 = .ok (.aload_n 0, 1) := by decide +kernel
theorem dX11_sure_18 : decode cX11_sure 18 = .ok (.getfield 39, 3) := by decide +kernel
theorem dX11_sure_21 : decode cX11_sure 21 = .ok (.iload_n 3, 1) := by decide +kernel
theorem dX11_sure_22 : decode cX11_sure 22 = .ok (.invokevirtual 392, 3) := by decide +kernel
theorem dX11_sure_25 : decode cX11_sure 25 = .ok (.ifCond .eq 33, 3) := by decide +kernel
theorem dX11_sure_28 : decode cX11_sure 28 = .ok (.aload_n 0, 1) := by decide +kernel
theorem dX11_sure_29 : decode cX11_sure 29 = .ok (.getfield 73, 3) := by decide +kernel
theorem dX11_sure_32 : decode cX11_sure 32 = .ok (.iload_n 3, 1) := by decide +kernel
theorem dX11_sure_33 : decode cX11_sure 33 = .ok (.iconst 1, 1) := by decide +kernel
theorem dX11_sure_34 : decode cX11_sure 34 = .ok (.isub, 1) := by decide +kernel
theorem dX11_sure_35 : decode cX11_sure 35 = .ok (.invokevirtual 222, 3) := by decide +kernel
theorem dX11_sure_38 : decode cX11_sure 38 = .ok (.aload_n 0, 1) := by decide +kernel
theorem dX11_sure_39 : decode cX11_sure 39 = .ok (.aload_n 0, 1) := by decide +kernel
theorem dX11_sure_40 : decode cX11_sure 40 = .ok (.getfield 73, 3) := by decide +kernel
theorem dX11_sure_43 : decode cX11_sure 43 = .ok (.iload_n 1, 1) := by decide +kernel
theorem dX11_sure_44 : decode cX11_sure 44 = .ok (.iload_n 2, 1) := by decide +kernel
theorem dX11_sure_45 : decode cX11_sure 45 = .ok (.invokevirtual 225, 3) := by decide +kernel
theorem dX11_sure_48 : decode cX11_sure 48 = .ok (.invokevirtual 228, 3) := by decide +kernel
theorem dX11_sure_51 : decode cX11_sure 51 = .ok (.bipush (-2), 2) := by decide +kernel
theorem dX11_sure_53 : decode cX11_sure 53 = .ok (.if_icmp .eq 5, 3) := by decide +kernel
theorem dX11_sure_56 : decode cX11_sure 56 = .ok (.iload_n 3, 1) := by decide +kernel
theorem dX11_sure_57 : decode cX11_sure 57 = .ok (.ireturn, 1) := by decide +kernel
theorem dX11_sure_58 : decode cX11_sure 58 = .ok (.iinc 3 (-1), 3) := by decide +kernel
theorem dX11_sure_61 : decode cX11_sure 61 = .ok (.goto (-48), 3) := by decide +kernel
theorem dX11_sure_64 : decode cX11_sure 64 = .ok (.bipush (-2), 2) := by decide +kernel
theorem dX11_sure_66 : decode cX11_sure 66 = .ok (.ireturn, 1) := by decide +kernel
set_option maxRecDepth 100000 in
set_option maxHeartbeats 4000000 in
theorem B_X11_sure_0 {κ : Nat → List Value → List Value → m2M → Prop} {D : Nat} {Q : Option Value → m2M → Prop} (h : m2_RL κ cX11_sure RX11 4 (D + 1) (some .int) Q) (hD : 1 ≤ D) {x1 : Int32} {x2 : Int32} {μ : m2M} (k : ((fX11_areUnlikeRooms x1 x2) = 1 → κ 13 [.ref kC, .int x1, .int x2, .int 60] [] μ) ∧ (¬ (fX11_areUnlikeRooms x1 x2) = 1 → Q (some (.int (-1))) μ)) : κ 0 [.ref kC, .int x1, .int x2, .null] [] μ := by
  have hB := h.b
  refine m2_iload_n hB dX11_sure_0 rfl ?_
  refine m2_iload_n hB dX11_sure_1 rfl ?_
  refine m2_invSz hB (as := [.int x1, .int x2]) dX11_sure_2 ms_X11_287 rfl (Nat.le_of_ble_eq_true rfl) rfl (P_X11_areUnlikeRooms (by omega) (x1) (x2) _ ) (fun y1 μ2 hq3 => ?_)
  obtain ⟨⟨⟩, hq3⟩ := hq3
  subst μ2
  show κ 5 [.ref kC, .int x1, .int x2, .null] [.int (if (fX11_areUnlikeRooms x1 x2) = 1 then 1 else 0 : Int32)] μ
  by_cases q4 : (fX11_areUnlikeRooms x1 x2) = 1
  · rw [if_pos q4]
    replace k := k.1 q4
    refine m2_if_ne hB dX11_sure_5 (tgt := 10) (by decide) (fun _ => ?_) (fun q => absurd q (by decide))
    refine m2_bipush hB dX11_sure_10 (v := 60) (by decide) ?_
    refine m2_istore_n hB (ls' := [.ref kC, .int x1, .int x2, .int 60]) dX11_sure_12 rfl (by decide) rfl ?_
    exact k
  · rw [if_neg q4]
    replace k := k.2 q4
    refine m2_if_ne hB dX11_sure_5 (tgt := 10) (by decide) (fun q => absurd q (by decide)) (fun _ => ?_)
    refine m2_iconst hB dX11_sure_8 (v := (-1)) (by decide) ?_
    exact m2_iret h dX11_sure_9 k
set_option maxRecDepth 100000 in
set_option maxHeartbeats 4000000 in
theorem B_X11_sure_13 {κ : Nat → List Value → List Value → m2M → Prop} {D : Nat} {Q : Option Value → m2M → Prop} (h : m2_RL κ cX11_sure RX11 4 (D + 1) (some .int) Q) {v1 : Int32} {v2 : Int32} {v3 : Int32} {μ : m2M} (k : (v3 ≤ 0 → Q (some (.int (-2))) μ) ∧ (¬ v3 ≤ 0 → ∃ Q4 : Option Value → m2M → Prop, m2_MT D yX0_someHasLeft cX0_someHasLeft 3 (some .boolean) [.ref kD, .int v3] μ Q4 ∧ ∀ (y2 : Int32) (μ3 : m2M), Q4 (some (.int y2)) μ3 → ((y2 = 0 → κ 13 [.ref kC, .int v1, .int v2, .int (v3 + (-1))] [] μ3) ∧ (¬ y2 = 0 → ∃ Q10 : Option Value → m2M → Prop, m2_MT D yX8_useAbove cX8_useAbove 3 none [.ref kR, .int (v3 - 1)] μ3 Q10 ∧ ∀ (μ9 : m2M), Q10 none μ9 → (∃ Q15 : Option Value → m2M → Prop, m2_MT D yX8_find cX8_find 3 (some .int) [.ref kR, .int v1, .int v2] μ9 Q15 ∧ ∀ (y13 : Int32) (μ14 : m2M), Q15 (some (.int y13)) μ14 → (∃ Q20 : Option Value → m2M → Prop, m2_MT D yX11_tellRoute cX11_tellRoute 3 (some .int) [.ref kC, .int y13] μ14 Q20 ∧ ∀ (y18 : Int32) (μ19 : m2M), Q20 (some (.int y18)) μ19 → ((y18 = (-2) → κ 13 [.ref kC, .int v1, .int v2, .int (v3 + (-1))] [] μ19) ∧ (¬ y18 = (-2) → Q (some (.int v3)) μ19)))))))) : κ 13 [.ref kC, .int v1, .int v2, .int v3] [] μ := by
  have hB := h.b
  refine m2_iload_n hB dX11_sure_13 rfl ?_
  refine m2_if_le hB dX11_sure_14 (tgt := 64) (by decide) (fun q1 : v3 ≤ 0 => ?_) (fun q1 : ¬ v3 ≤ 0 => ?_)
  · replace k := k.1 q1
    refine m2_bipush hB dX11_sure_64 (v := (-2)) (by decide) ?_
    exact m2_iret h dX11_sure_66 k
  · replace k := k.2 q1
    refine m2_aload_n hB dX11_sure_17 rfl ?_
    refine m2_getR hB dX11_sure_18 fl_X11_39 sh_kC (c1 := kD) rfl ?_
    refine m2_iload_n hB dX11_sure_21 rfl ?_
    obtain ⟨Q4, hM5, k⟩ := k
    refine m2_invz hB (as := [.int v3]) dX11_sure_22 mv_X11_392 rfl sh_kD rfl (Nat.le_of_ble_eq_true rfl) rfl hM5 (fun y2 μ3 hq6 => ?_)
    replace k := k y2 μ3 hq6
    refine m2_if_eq hB dX11_sure_25 (tgt := 58) (by decide) (fun q7 : y2 = 0 => ?_) (fun q7 : ¬ y2 = 0 => ?_)
    · replace k := k.1 q7
      refine m2_iinc hB (ls' := [.ref kC, .int v1, .int v2, .int (v3 + (-1))]) (v := (v3 + (-1))) dX11_sure_58 rfl (by decide) rfl rfl ?_
      refine m2_goto hB dX11_sure_61 (tgt := 13) (by decide) ?_
      exact k
    · replace k := k.2 q7
      refine m2_aload_n hB dX11_sure_28 rfl ?_
      refine m2_getR hB dX11_sure_29 fl_X11_73 sh_kC (c1 := kR) rfl ?_
      refine m2_iload_n hB dX11_sure_32 rfl ?_
      refine m2_iconst hB dX11_sure_33 (v := 1) (by decide) ?_
      refine m2_isub hB dX11_sure_34 ?_
      obtain ⟨Q10, hM11, k⟩ := k
      refine m2_invv hB (as := [.int (v3 - 1)]) dX11_sure_35 mv_X11_222 rfl sh_kR rfl (Nat.le_of_ble_eq_true rfl) rfl hM11 (fun μ9 hq12 => ?_)
      replace k := k μ9 hq12
      refine m2_aload_n hB dX11_sure_38 rfl ?_
      refine m2_aload_n hB dX11_sure_39 rfl ?_
      refine m2_getR hB dX11_sure_40 fl_X11_73 sh_kC (c1 := kR) rfl ?_
      refine m2_iload_n hB dX11_sure_43 rfl ?_
      refine m2_iload_n hB dX11_sure_44 rfl ?_
      obtain ⟨Q15, hM16, k⟩ := k
      refine m2_invi hB (as := [.int v1, .int v2]) dX11_sure_45 mv_X11_225 rfl sh_kR rfl (Nat.le_of_ble_eq_true rfl) rfl hM16 (fun y13 μ14 hq17 => ?_)
      replace k := k y13 μ14 hq17
      obtain ⟨Q20, hM21, k⟩ := k
      refine m2_invi hB (as := [.int y13]) dX11_sure_48 mv_X11_228 rfl sh_kC rfl (Nat.le_of_ble_eq_true rfl) rfl hM21 (fun y18 μ19 hq22 => ?_)
      replace k := k y18 μ19 hq22
      refine m2_bipush hB dX11_sure_51 (v := (-2)) (by decide) ?_
      refine m2_icmp_eq hB dX11_sure_53 (tgt := 58) (by decide) (fun q23 : y18 = (-2) => ?_) (fun q23 : ¬ y18 = (-2) => ?_)
      · replace k := k.1 q23
        refine m2_iinc hB (ls' := [.ref kC, .int v1, .int v2, .int (v3 + (-1))]) (v := (v3 + (-1))) dX11_sure_58 rfl (by decide) rfl rfl ?_
        refine m2_goto hB dX11_sure_61 (tgt := 13) (by decide) ?_
        exact k
      · replace k := k.2 q23
        refine m2_iload_n hB dX11_sure_56 rfl ?_
        exact m2_iret h dX11_sure_57 k
theorem dX11_says_0 : decode cX11_says 0 = .ok (.iload_n 1, 1) := by decide +kernel
theorem dX11_says_1 : decode cX11_says 1 = .ok (.ifCond .lt 23, 3) := by decide +kernel
theorem dX11_says_4 : decode cX11_says 4 = .ok (.iload_n 1, 1) := by decide +kernel
theorem dX11_says_5 : decode cX11_says 5 = .ok (.iconst 4, 1) := by decide +kernel
theorem dX11_says_6 : decode cX11_says 6 = .ok (.if_icmp .ge 18, 3) := by decide +kernel
theorem dX11_says_9 : decode cX11_says 9 = .ok (.aload_n 0, 1) := by decide +kernel
theorem dX11_says_10 : decode cX11_says 10 = .ok (.getfield 39, 3) := by decide +kernel
theorem dX11_says_13 : decode cX11_says 13 = .ok (.iload_n 2, 1) := by decide +kernel
theorem dX11_says_14 : decode cX11_says 14 = .ok (.invokevirtual 130, 3) := by decide +kernel
theorem dX11_says_17 : decode cX11_says 17 = .ok (.ifCond .eq 7, 3) := by decide +kernel
theorem dX11_says_20 : decode cX11_says 20 = .ok (.iconst 1, 1) := by decide +kernel
theorem dX11_says_21 : decode cX11_says 21 = .ok (.goto 4, 3) := by decide +kernel
theorem dX11_says_24 : decode cX11_says 24 = .ok (.iconst 0, 1) := by decide +kernel
theorem dX11_says_25 : decode cX11_says 25 = .ok (.istore 4, 2) := by decide +kernel
theorem dX11_says_27 : decode cX11_says 27 = .ok (.iload 4, 2) := by decide +kernel
theorem dX11_says_29 : decode cX11_says 29 = .ok (.ifCond .eq 22, 3) := by decide +kernel
theorem dX11_says_32 : decode cX11_says 32 = .ok (.iload_n 3, 1) := by decide +kernel
theorem dX11_says_33 : decode cX11_says 33 = .ok (.ifCond .lt 18, 3) := by decide +kernel
theorem dX11_says_36 : decode cX11_says 36 = .ok (.iload_n 3, 1) := by decide +kernel
theorem dX11_says_37 : decode cX11_says 37 = .ok (.bipush 60, 2) := by decide +kernel
theorem dX11_says_39 : decode cX11_says 39 = .ok (.if_icmp .gt 12, 3) := by decide +kernel
theorem dX11_says_42 : decode cX11_says 42 = .ok (.aload_n 0, 1) := by decide +kernel
theorem dX11_says_43 : decode cX11_says 43 = .ok (.getfield 395, 3) := by decide +kernel
theorem dX11_says_46 : decode cX11_says 46 = .ok (.bipush 20, 2) := by decide +kernel
theorem dX11_says_48 : decode cX11_says 48 = .ok (.if_icmp .lt 5, 3) := by decide +kernel
theorem dX11_says_51 : decode cX11_says 51 = .ok (.iconst (-1), 1) := by decide +kernel
theorem dX11_says_52 : decode cX11_says 52 = .ok (.ireturn, 1) := by decide +kernel
theorem dX11_says_53 : decode cX11_says 53 = .ok (.aload_n 0, 1) := by decide +kernel
theorem dX11_says_54 : decode cX11_says 54 = .ok (.getfield 17, 3) := by decide +kernel
theorem dX11_says_57 : decode cX11_says 57 = .ok (.aload_n 0, 1) := by decide +kernel
theorem dX11_says_58 : decode cX11_says 58 = .ok (.getfield 395, 3) := by decide +kernel
theorem dX11_says_61 : decode cX11_says 61 = .ok (.iload_n 1, 1) := by decide +kernel
theorem dX11_says_62 : decode cX11_says 62 = .ok (.iastore, 1) := by decide +kernel
theorem dX11_says_63 : decode cX11_says 63 = .ok (.aload_n 0, 1) := by decide +kernel
theorem dX11_says_64 : decode cX11_says 64 = .ok (.getfield 21, 3) := by decide +kernel
theorem dX11_says_67 : decode cX11_says 67 = .ok (.aload_n 0, 1) := by decide +kernel
theorem dX11_says_68 : decode cX11_says 68 = .ok (.getfield 395, 3) := by decide +kernel
theorem dX11_says_71 : decode cX11_says 71 = .ok (.iload_n 2, 1) := by decide +kernel
theorem dX11_says_72 : decode cX11_says 72 = .ok (.iastore, 1) := by decide +kernel
theorem dX11_says_73 : decode cX11_says 73 = .ok (.aload_n 0, 1) := by decide +kernel
theorem dX11_says_74 : decode cX11_says 74 = .ok (.getfield 24, 3) := by decide +kernel
theorem dX11_says_77 : decode cX11_says 77 = .ok (.aload_n 0, 1) := by decide +kernel
theorem dX11_says_78 : decode cX11_says 78 = .ok (.getfield 395, 3) := by decide +kernel
theorem dX11_says_81 : decode cX11_says 81 = .ok (.iload_n 3, 1) := by decide +kernel
theorem dX11_says_82 : decode cX11_says 82 = .ok (.iastore, 1) := by decide +kernel
theorem dX11_says_83 : decode cX11_says 83 = .ok (.aload_n 0, 1) := by decide +kernel
theorem dX11_says_84 : decode cX11_says 84 = .ok (.dup, 1) := by decide +kernel
theorem dX11_says_85 : decode cX11_says 85 = .ok (.getfield 395, 3) := by decide +kernel
theorem dX11_says_88 : decode cX11_says 88 = .ok (.iconst 1, 1) := by decide +kernel
theorem dX11_says_89 : decode cX11_says 89 = .ok (.iadd, 1) := by decide +kernel
theorem dX11_says_90 : decode cX11_says 90 = .ok (.putfield 395, 3) := by decide +kernel
theorem dX11_says_93 : decode cX11_says 93 = .ok (.aload_n 0, 1) := by decide +kernel
theorem dX11_says_94 : decode cX11_says 94 = .ok (.getfield 395, 3) := by decide +kernel
theorem dX11_says_97 : decode cX11_says 97 = .ok (.ireturn, 1) := by decide +kernel
set_option maxRecDepth 100000 in
set_option maxHeartbeats 4000000 in
theorem B_X11_says_0 {κ : Nat → List Value → List Value → m2M → Prop} {D : Nat} {Q : Option Value → m2M → Prop} (h : m2_RL κ cX11_says RX11 5 (D + 1) (some .int) Q) (hD : 0 ≤ D) {x1 : Int32} {x2 : Int32} {x3 : Int32} {μ : m2M} (k : (x1 < 0 → Q (some (.int (-1))) μ) ∧ (¬ x1 < 0 → (4 ≤ x1 → Q (some (.int (-1))) μ) ∧ (¬ 4 ≤ x1 → ((fX0_has x2 μ) = 1 → (x3 < 0 → Q (some (.int (-1))) μ) ∧ (¬ x3 < 0 → (60 < x3 → Q (some (.int (-1))) μ) ∧ (¬ 60 < x3 → ((μ.1 kC 7) < 20 → (vp_in (μ.1 kC 7) 20) ∧ (Q (some (.int ((μ.1 kC 7) + 1))) (m2_si (m2_si (m2_si (m2_si μ kC_sayingMaid ((μ.1 kC 7)).toNatClampNeg x1) kC_sayingDoor ((μ.1 kC 7)).toNatClampNeg x2) kC_sayingNumber ((μ.1 kC 7)).toNatClampNeg x3) kC 7 ((μ.1 kC 7) + 1)))) ∧ (¬ (μ.1 kC 7) < 20 → Q (some (.int (-1))) μ)))) ∧ (¬ (fX0_has x2 μ) = 1 → Q (some (.int (-1))) μ)))) : κ 0 [.ref kC, .int x1, .int x2, .int x3, .null] [] μ := by
  have hB := h.b
  refine m2_iload_n hB dX11_says_0 rfl ?_
  refine m2_if_lt hB dX11_says_1 (tgt := 24) (by decide) (fun q4 : x1 < 0 => ?_) (fun q4 : ¬ x1 < 0 => ?_)
  · replace k := k.1 q4
    refine m2_iconst hB dX11_says_24 (v := 0) (by decide) ?_
    refine m2_istore hB (ls' := [.ref kC, .int x1, .int x2, .int x3, .int 0]) dX11_says_25 (by decide) rfl ?_
    refine m2_iload hB dX11_says_27 rfl ?_
    refine m2_if_eq hB dX11_says_29 (tgt := 51) (by decide) (fun _ => ?_) (fun q => absurd q (by decide))
    refine m2_iconst hB dX11_says_51 (v := (-1)) (by decide) ?_
    exact m2_iret h dX11_says_52 k
  · replace k := k.2 q4
    refine m2_iload_n hB dX11_says_4 rfl ?_
    refine m2_iconst hB dX11_says_5 (v := 4) (by decide) ?_
    refine m2_icmp_ge hB dX11_says_6 (tgt := 24) (by decide) (fun q8 : 4 ≤ x1 => ?_) (fun q8 : ¬ 4 ≤ x1 => ?_)
    · replace k := k.1 q8
      refine m2_iconst hB dX11_says_24 (v := 0) (by decide) ?_
      refine m2_istore hB (ls' := [.ref kC, .int x1, .int x2, .int x3, .int 0]) dX11_says_25 (by decide) rfl ?_
      refine m2_iload hB dX11_says_27 rfl ?_
      refine m2_if_eq hB dX11_says_29 (tgt := 51) (by decide) (fun _ => ?_) (fun q => absurd q (by decide))
      refine m2_iconst hB dX11_says_51 (v := (-1)) (by decide) ?_
      exact m2_iret h dX11_says_52 k
    · replace k := k.2 q8
      refine m2_aload_n hB dX11_says_9 rfl ?_
      refine m2_getR hB dX11_says_10 fl_X11_39 sh_kC (c1 := kD) rfl ?_
      refine m2_iload_n hB dX11_says_13 rfl ?_
      refine m2_invz hB (as := [.int x2]) dX11_says_14 mv_X11_130 rfl sh_kD rfl (Nat.le_of_ble_eq_true rfl) rfl (P_X0_has (by omega) (x2) _ ) (fun y9 μ10 hq11 => ?_)
      obtain ⟨⟨⟩, hq11⟩ := hq11
      subst μ10
      show κ 17 [.ref kC, .int x1, .int x2, .int x3, .null] [.int (if (fX0_has x2 μ) = 1 then 1 else 0 : Int32)] μ
      by_cases q12 : (fX0_has x2 μ) = 1
      · rw [if_pos q12]
        replace k := k.1 q12
        refine m2_if_eq hB dX11_says_17 (tgt := 24) (by decide) (fun q => absurd q (by decide)) (fun _ => ?_)
        refine m2_iconst hB dX11_says_20 (v := 1) (by decide) ?_
        refine m2_goto hB dX11_says_21 (tgt := 25) (by decide) ?_
        refine m2_istore hB (ls' := [.ref kC, .int x1, .int x2, .int x3, .int 1]) dX11_says_25 (by decide) rfl ?_
        refine m2_iload hB dX11_says_27 rfl ?_
        refine m2_if_eq hB dX11_says_29 (tgt := 51) (by decide) (fun q => absurd q (by decide)) (fun _ => ?_)
        refine m2_iload_n hB dX11_says_32 rfl ?_
        refine m2_if_lt hB dX11_says_33 (tgt := 51) (by decide) (fun q13 : x3 < 0 => ?_) (fun q13 : ¬ x3 < 0 => ?_)
        · replace k := k.1 q13
          refine m2_iconst hB dX11_says_51 (v := (-1)) (by decide) ?_
          exact m2_iret h dX11_says_52 k
        · replace k := k.2 q13
          refine m2_iload_n hB dX11_says_36 rfl ?_
          refine m2_bipush hB dX11_says_37 (v := 60) (by decide) ?_
          refine m2_icmp_gt hB dX11_says_39 (tgt := 51) (by decide) (fun q14 : 60 < x3 => ?_) (fun q14 : ¬ 60 < x3 => ?_)
          · replace k := k.1 q14
            refine m2_iconst hB dX11_says_51 (v := (-1)) (by decide) ?_
            exact m2_iret h dX11_says_52 k
          · replace k := k.2 q14
            refine m2_aload_n hB dX11_says_42 rfl ?_
            refine m2_getI hB dX11_says_43 fl_X11_395 sh_kC rfl ?_
            refine m2_bipush hB dX11_says_46 (v := 20) (by decide) ?_
            refine m2_icmp_lt hB dX11_says_48 (tgt := 53) (by decide) (fun q15 : (μ.1 kC 7) < 20 => ?_) (fun q15 : ¬ (μ.1 kC 7) < 20 => ?_)
            · replace k := k.1 q15
              refine m2_aload_n hB dX11_says_53 rfl ?_
              refine m2_getR hB dX11_says_54 fl_X11_17 sh_kC (c1 := kC_sayingMaid) rfl ?_
              refine m2_aload_n hB dX11_says_57 rfl ?_
              refine m2_getI hB dX11_says_58 fl_X11_395 sh_kC rfl ?_
              refine m2_iload_n hB dX11_says_61 rfl ?_
              obtain ⟨hi16, k⟩ := k
              refine m2_iast hB dX11_says_62 sh_kC_sayingMaid hi16 ?_
              refine m2_aload_n hB dX11_says_63 rfl ?_
              refine m2_getR hB dX11_says_64 fl_X11_21 sh_kC (c1 := kC_sayingDoor) rfl ?_
              refine m2_aload_n hB dX11_says_67 rfl ?_
              refine m2_getI hB dX11_says_68 fl_X11_395 sh_kC rfl ?_
              refine m2_iload_n hB dX11_says_71 rfl ?_
              have hi17 := hi16
              refine m2_iast hB dX11_says_72 sh_kC_sayingDoor hi17 ?_
              refine m2_aload_n hB dX11_says_73 rfl ?_
              refine m2_getR hB dX11_says_74 fl_X11_24 sh_kC (c1 := kC_sayingNumber) rfl ?_
              refine m2_aload_n hB dX11_says_77 rfl ?_
              refine m2_getI hB dX11_says_78 fl_X11_395 sh_kC rfl ?_
              refine m2_iload_n hB dX11_says_81 rfl ?_
              have hi18 := hi16
              refine m2_iast hB dX11_says_82 sh_kC_sayingNumber hi18 ?_
              refine m2_aload_n hB dX11_says_83 rfl ?_
              refine m2_dup hB dX11_says_84 rfl ?_
              refine m2_getI hB dX11_says_85 fl_X11_395 sh_kC rfl ?_
              refine m2_iconst hB dX11_says_88 (v := 1) (by decide) ?_
              refine m2_iadd hB dX11_says_89 ?_
              refine m2_putI hB dX11_says_90 fl_X11_395 sh_kC rfl ?_
              refine m2_aload_n hB dX11_says_93 rfl ?_
              refine m2_getI hB dX11_says_94 fl_X11_395 sh_kC rfl ?_
              exact m2_iret h dX11_says_97 k
            · replace k := k.2 q15
              refine m2_iconst hB dX11_says_51 (v := (-1)) (by decide) ?_
              exact m2_iret h dX11_says_52 k
      · rw [if_neg q12]
        replace k := k.2 q12
        refine m2_if_eq hB dX11_says_17 (tgt := 24) (by decide) (fun _ => ?_) (fun q => absurd q (by decide))
        refine m2_iconst hB dX11_says_24 (v := 0) (by decide) ?_
        refine m2_istore hB (ls' := [.ref kC, .int x1, .int x2, .int x3, .int 0]) dX11_says_25 (by decide) rfl ?_
        refine m2_iload hB dX11_says_27 rfl ?_
        refine m2_if_eq hB dX11_says_29 (tgt := 51) (by decide) (fun _ => ?_) (fun q => absurd q (by decide))
        refine m2_iconst hB dX11_says_51 (v := (-1)) (by decide) ?_
        exact m2_iret h dX11_says_52 k
theorem dX11_trust_0 : decode cX11_trust 0 = .ok (.iload_n 1, 1) := by decide +kernel
theorem dX11_trust_1 : decode cX11_trust 1 = .ok (.ifCond .lt 8, 3) := by decide +kernel
theorem dX11_trust_4 : decode cX11_trust 4 = .ok (.iload_n 1, 1) := by decide +kernel
theorem dX11_trust_5 : decode cX11_trust 5 = .ok (.iconst 4, 1) := by decide +kernel
theorem dX11_trust_6 : decode cX11_trust 6 = .ok (.if_icmp .lt 5, 3) := by decide +kernel
theorem dX11_trust_9 : decode cX11_trust 9 = .ok (.iconst (-1), 1) := by decide +kernel
theorem dX11_trust_10 : decode cX11_trust 10 = .ok (.ireturn, 1) := by decide +kernel
theorem dX11_trust_11 : decode cX11_trust 11 = .ok (.iconst 0, 1) := by decide +kernel
theorem dX11_trust_12 : decode cX11_trust 12 = .ok (.istore_n 2, 1) := by decide +kernel
theorem dX11_trust_13 : decode cX11_trust 13 = .ok (.iconst 0, 1) := by decide +kernel
theorem dX11_trust_14 : decode cX11_trust 14 = .ok (.istore_n 3, 1) := by decide +kernel
theorem dX11_trust_15 : decode cX11_trust 15 = .ok (.iconst 0, 1) := by decide +kernel
theorem dX11_trust_16 : decode cX11_trust 16 = .ok (.istore 4, 2) := by decide +kernel
theorem dX11_trust_18 : decode cX11_trust 18 = .ok (.iconst 0, 1) := by decide +kernel
theorem dX11_trust_19 : decode cX11_trust 19 = .ok (.istore 5, 2) := by decide +kernel
theorem dX11_trust_21 : decode cX11_trust 21 = .ok (.iload 5, 2) := by decide +kernel
theorem dX11_trust_23 : decode cX11_trust 23 = .ok (.aload_n 0, 1) := by decide +kernel
theorem dX11_trust_24 : decode cX11_trust 24 = .ok (.getfield 395, 3) := by decide +kernel
theorem dX11_trust_27 : decode cX11_trust 27 = .ok (.if_icmp .ge 74, 3) := by decide +kernel
theorem dX11_trust_30 : decode cX11_trust 30 = .ok (.aload_n 0, 1) := by decide +kernel
theorem dX11_trust_31 : decode cX11_trust 31 = .ok (.getfield 17, 3) := by decide +kernel
theorem dX11_trust_34 : decode cX11_trust 34 = .ok (.iload 5, 2) := by decide +kernel
theorem dX11_trust_36 : decode cX11_trust 36 = .ok (.iaload, 1) := by decide +kernel
theorem dX11_trust_37 : decode cX11_trust 37 = .ok (.iload_n 1, 1) := by decide +kernel
theorem dX11_trust_38 : decode cX11_trust 38 = .ok (.if_icmp .ne 57, 3) := by decide +kernel
theorem dX11_trust_41 : decode cX11_trust 41 = .ok (.aload_n 0, 1) := by decide +kernel
theorem dX11_trust_42 : decode cX11_trust 42 = .ok (.getfield 24, 3) := by decide +kernel
theorem dX11_trust_45 : decode cX11_trust 45 = .ok (.iload 5, 2) := by decide +kernel
theorem dX11_trust_47 : decode cX11_trust 47 = .ok (.iaload, 1) := by decide +kernel
theorem dX11_trust_48 : decode cX11_trust 48 = .ok (.aload_n 0, 1) := by decide +kernel
theorem dX11_trust_49 : decode cX11_trust 49 = .ok (.getfield 39, 3) := by decide +kernel
theorem dX11_trust_52 : decode cX11_trust 52 = .ok (.getfield 158, 3) := by decide +kernel
theorem dX11_trust_55 : decode cX11_trust 55 = .ok (.aload_n 0, 1) := by decide +kernel
theorem dX11_trust_56 : decode cX11_trust 56 = .ok (.getfield 21, 3) := by decide +kernel
theorem dX11_trust_59 : decode cX11_trust 59 = .ok (.iload 5, 2) := by decide +kernel
theorem dX11_trust_61 : decode cX11_trust 61 = .ok (.iaload, 1) := by decide +kernel
theorem dX11_trust_62 : decode cX11_trust 62 = .ok (.iaload, 1) := by decide +kernel
theorem dX11_trust_63 : decode cX11_trust 63 = .ok (.isub, 1) := by decide +kernel
theorem dX11_trust_64 : decode cX11_trust 64 = .ok (.invokestatic 398, 3) := by decide +kernel
theorem dX11_trust_67 : decode cX11_trust 67 = .ok (.istore 6, 2) := by decide +kernel
theorem dX11_trust_69 : decode cX11_trust 69 = .ok (.iinc 2 1, 3) := by decide +kernel
theorem dX11_trust_72 : decode cX11_trust 72 = .ok (.iload_n 3, 1) := by decide +kernel
theorem dX11_trust_73 : decode cX11_trust 73 = .ok (.iload 6, 2) := by decide +kernel
theorem dX11_trust_75 : decode cX11_trust 75 = .ok (.ifCond .ne 7, 3) := by decide +kernel
theorem dX11_trust_78 : decode cX11_trust 78 = .ok (.iconst 1, 1) := by decide +kernel
theorem dX11_trust_79 : decode cX11_trust 79 = .ok (.goto 4, 3) := by decide +kernel
theorem dX11_trust_82 : decode cX11_trust 82 = .ok (.iconst 0, 1) := by decide +kernel
theorem dX11_trust_83 : decode cX11_trust 83 = .ok (.invokestatic 151, 3) := by decide +kernel
theorem dX11_trust_86 : decode cX11_trust 86 = .ok (.iadd, 1) := by decide +kernel
theorem dX11_trust_87 : decode cX11_trust 87 = .ok (.istore_n 3, 1) := by decide +kernel
theorem dX11_trust_88 : decode cX11_trust 88 = .ok (.iload 4, 2) := by decide +kernel
theorem dX11_trust_90 : decode cX11_trust 90 = .ok (.iload 6, 2) := by decide +kernel
theorem dX11_trust_92 : decode cX11_trust 92 = .ok (.iadd, 1) := by decide +kernel
theorem dX11_trust_93 : decode cX11_trust 93 = .ok (.istore 4, 2) := by decide +kernel
theorem dX11_trust_95 : decode cX11_trust 95 = .ok (.iinc 5 1, 3) := by decide +kernel
theorem dX11_trust_98 : decode cX11_trust 98 = .ok (.goto (-77), 3) := by decide +kernel
theorem dX11_trust_101 : decode cX11_trust 101 = .ok (.aload_n 0, 1) := by decide +kernel
theorem dX11_trust_102 : decode cX11_trust 102 = .ok (.iconst 0, 1) := by decide +kernel
theorem dX11_trust_103 : decode cX11_trust 103 = .ok (.putfield 240, 3) := by decide +kernel
theorem dX11_trust_106 : decode cX11_trust 106 = .ok (.aload_n 0, 1) := by decide +kernel
theorem dX11_trust_107 : decode cX11_trust 107 = .ok (.iload_n 2, 1) := by decide +kernel
theorem dX11_trust_108 : decode cX11_trust 108 = .ok (.i2l, 1) := by decide +kernel
theorem dX11_trust_109 : decode cX11_trust 109 = .ok (.invokevirtual 269, 3) := by decide +kernel
theorem dX11_trust_112 : decode cX11_trust 112 = .ok (.aload_n 0, 1) := by decide +kernel
theorem dX11_trust_113 : decode cX11_trust 113 = .ok (.iload 4, 2) := by decide +kernel
theorem dX11_trust_115 : decode cX11_trust 115 = .ok (.i2l, 1) := by decide +kernel
theorem dX11_trust_116 : decode cX11_trust 116 = .ok (.invokevirtual 269, 3) := by decide +kernel
theorem dX11_trust_119 : decode cX11_trust 119 = .ok (.iload_n 3, 1) := by decide +kernel
theorem dX11_trust_120 : decode cX11_trust 120 = .ok (.ireturn, 1) := by decide +kernel
set_option maxRecDepth 100000 in
set_option maxHeartbeats 4000000 in
theorem B_X11_trust_0 {κ : Nat → List Value → List Value → m2M → Prop} {D : Nat} {Q : Option Value → m2M → Prop} (h : m2_RL κ cX11_trust RX11 7 D (some .int) Q) {x1 : Int32} {μ : m2M} (k : (x1 < 0 → Q (some (.int (-1))) μ) ∧ (¬ x1 < 0 → (x1 < 4 → κ 21 [.ref kC, .int x1, .int 0, .int 0, .int 0, .int 0, .null] [] μ) ∧ (¬ x1 < 4 → Q (some (.int (-1))) μ))) : κ 0 [.ref kC, .int x1, .null, .null, .null, .null, .null] [] μ := by
  have hB := h.b
  refine m2_iload_n hB dX11_trust_0 rfl ?_
  refine m2_if_lt hB dX11_trust_1 (tgt := 9) (by decide) (fun q1 : x1 < 0 => ?_) (fun q1 : ¬ x1 < 0 => ?_)
  · replace k := k.1 q1
    refine m2_iconst hB dX11_trust_9 (v := (-1)) (by decide) ?_
    exact m2_iret h dX11_trust_10 k
  · replace k := k.2 q1
    refine m2_iload_n hB dX11_trust_4 rfl ?_
    refine m2_iconst hB dX11_trust_5 (v := 4) (by decide) ?_
    refine m2_icmp_lt hB dX11_trust_6 (tgt := 11) (by decide) (fun q2 : x1 < 4 => ?_) (fun q2 : ¬ x1 < 4 => ?_)
    · replace k := k.1 q2
      refine m2_iconst hB dX11_trust_11 (v := 0) (by decide) ?_
      refine m2_istore_n hB (ls' := [.ref kC, .int x1, .int 0, .null, .null, .null, .null]) dX11_trust_12 rfl (by decide) rfl ?_
      refine m2_iconst hB dX11_trust_13 (v := 0) (by decide) ?_
      refine m2_istore_n hB (ls' := [.ref kC, .int x1, .int 0, .int 0, .null, .null, .null]) dX11_trust_14 rfl (by decide) rfl ?_
      refine m2_iconst hB dX11_trust_15 (v := 0) (by decide) ?_
      refine m2_istore hB (ls' := [.ref kC, .int x1, .int 0, .int 0, .int 0, .null, .null]) dX11_trust_16 (by decide) rfl ?_
      refine m2_iconst hB dX11_trust_18 (v := 0) (by decide) ?_
      refine m2_istore hB (ls' := [.ref kC, .int x1, .int 0, .int 0, .int 0, .int 0, .null]) dX11_trust_19 (by decide) rfl ?_
      exact k
    · replace k := k.2 q2
      refine m2_iconst hB dX11_trust_9 (v := (-1)) (by decide) ?_
      exact m2_iret h dX11_trust_10 k
set_option maxRecDepth 100000 in
set_option maxHeartbeats 4000000 in
theorem B_X11_trust_21 {κ : Nat → List Value → List Value → m2M → Prop} {D : Nat} {Q : Option Value → m2M → Prop} (h : m2_RL κ cX11_trust RX11 7 (D + 1) (some .int) Q) (hD : 0 ≤ D) {v1 : Int32} {v2 : Int32} {v3 : Int32} {v4 : Int32} {v5 : Int32} {μ : m2M} (k : ((μ.1 kC 7) ≤ v5 → ∃ Q5 : Option Value → m2M → Prop, m2_MT D yX11_tell cX11_tell 3 none [.ref kC, .long (v2).toInt64] (m2_si μ kC 3 0) Q5 ∧ ∀ (μ4 : m2M), Q5 none μ4 → (∃ Q10 : Option Value → m2M → Prop, m2_MT D yX11_tell cX11_tell 3 none [.ref kC, .long (v4).toInt64] μ4 Q10 ∧ ∀ (μ9 : m2M), Q10 none μ9 → (Q (some (.int v3)) μ9))) ∧ (¬ (μ.1 kC 7) ≤ v5 → (vp_in v5 20) ∧ ((¬ (μ.1 kC_sayingMaid (v5).toNatClampNeg) = v1 → κ 21 [.ref kC, .int v1, .int v2, .int v3, .int v4, .int (v5 + 1), .null] [] μ) ∧ ((μ.1 kC_sayingMaid (v5).toNatClampNeg) = v1 → (vp_in (μ.1 kC_sayingDoor (v5).toNatClampNeg) 20) ∧ (κ 21 [.ref kC, .int v1, .int (v2 + 1), .int (v3 + (if (m2_abs ((μ.1 kC_sayingNumber (v5).toNatClampNeg) - (μ.1 kD_left ((μ.1 kC_sayingDoor (v5).toNatClampNeg)).toNatClampNeg))) = 0 then 1 else 0 : Int32)), .int (v4 + (m2_abs ((μ.1 kC_sayingNumber (v5).toNatClampNeg) - (μ.1 kD_left ((μ.1 kC_sayingDoor (v5).toNatClampNeg)).toNatClampNeg)))), .int (v5 + 1), .null] [] μ))))) : κ 21 [.ref kC, .int v1, .int v2, .int v3, .int v4, .int v5, .null] [] μ := by
  have hB := h.b
  refine m2_iload hB dX11_trust_21 rfl ?_
  refine m2_aload_n hB dX11_trust_23 rfl ?_
  refine m2_getI hB dX11_trust_24 fl_X11_395 sh_kC rfl ?_
  refine m2_icmp_ge hB dX11_trust_27 (tgt := 101) (by decide) (fun q2 : (μ.1 kC 7) ≤ v5 => ?_) (fun q2 : ¬ (μ.1 kC 7) ≤ v5 => ?_)
  · replace k := k.1 q2
    refine m2_aload_n hB dX11_trust_101 rfl ?_
    refine m2_iconst hB dX11_trust_102 (v := 0) (by decide) ?_
    refine m2_putI hB dX11_trust_103 fl_X11_240 sh_kC rfl ?_
    refine m2_aload_n hB dX11_trust_106 rfl ?_
    refine m2_iload_n hB dX11_trust_107 rfl ?_
    refine m2_i2l hB dX11_trust_108 ?_
    obtain ⟨Q5, hM6, k⟩ := k
    refine m2_invv hB (as := [.long (v2).toInt64]) dX11_trust_109 mv_X11_269 rfl sh_kC rfl (Nat.le_of_ble_eq_true rfl) rfl hM6 (fun μ4 hq7 => ?_)
    replace k := k μ4 hq7
    refine m2_aload_n hB dX11_trust_112 rfl ?_
    refine m2_iload hB dX11_trust_113 rfl ?_
    refine m2_i2l hB dX11_trust_115 ?_
    obtain ⟨Q10, hM11, k⟩ := k
    refine m2_invv hB (as := [.long (v4).toInt64]) dX11_trust_116 mv_X11_269 rfl sh_kC rfl (Nat.le_of_ble_eq_true rfl) rfl hM11 (fun μ9 hq12 => ?_)
    replace k := k μ9 hq12
    refine m2_iload_n hB dX11_trust_119 rfl ?_
    exact m2_iret h dX11_trust_120 k
  · replace k := k.2 q2
    refine m2_aload_n hB dX11_trust_30 rfl ?_
    refine m2_getR hB dX11_trust_31 fl_X11_17 sh_kC (c1 := kC_sayingMaid) rfl ?_
    refine m2_iload hB dX11_trust_34 rfl ?_
    obtain ⟨hi13, k⟩ := k
    refine m2_iald hB dX11_trust_36 sh_kC_sayingMaid hi13 ?_
    refine m2_iload_n hB dX11_trust_37 rfl ?_
    refine m2_icmp_ne hB dX11_trust_38 (tgt := 95) (by decide) (fun q15 : ¬ (μ.1 kC_sayingMaid (v5).toNatClampNeg) = v1 => ?_) (fun q15 : (μ.1 kC_sayingMaid (v5).toNatClampNeg) = v1 => ?_)
    · replace k := k.1 q15
      refine m2_iinc hB (ls' := [.ref kC, .int v1, .int v2, .int v3, .int v4, .int (v5 + 1), .null]) (v := (v5 + 1)) dX11_trust_95 rfl (by decide) rfl rfl ?_
      refine m2_goto hB dX11_trust_98 (tgt := 21) (by decide) ?_
      exact k
    · replace k := k.2 q15
      refine m2_aload_n hB dX11_trust_41 rfl ?_
      refine m2_getR hB dX11_trust_42 fl_X11_24 sh_kC (c1 := kC_sayingNumber) rfl ?_
      refine m2_iload hB dX11_trust_45 rfl ?_
      have hi16 := hi13
      refine m2_iald hB dX11_trust_47 sh_kC_sayingNumber hi16 ?_
      refine m2_aload_n hB dX11_trust_48 rfl ?_
      refine m2_getR hB dX11_trust_49 fl_X11_39 sh_kC (c1 := kD) rfl ?_
      refine m2_getR hB dX11_trust_52 fl_X11_158 sh_kD (c1 := kD_left) rfl ?_
      refine m2_aload_n hB dX11_trust_55 rfl ?_
      refine m2_getR hB dX11_trust_56 fl_X11_21 sh_kC (c1 := kC_sayingDoor) rfl ?_
      refine m2_iload hB dX11_trust_59 rfl ?_
      have hi17 := hi13
      refine m2_iald hB dX11_trust_61 sh_kC_sayingDoor hi17 ?_
      obtain ⟨hi18, k⟩ := k
      refine m2_iald hB dX11_trust_62 sh_kD_left hi18 ?_
      refine m2_isub hB dX11_trust_63 ?_
      refine m2_mabs hB dX11_trust_64 ms_X11_398 (Nat.le_of_ble_eq_true rfl) ?_
      refine m2_istore hB (ls' := [.ref kC, .int v1, .int v2, .int v3, .int v4, .int v5, .int (m2_abs ((μ.1 kC_sayingNumber (v5).toNatClampNeg) - (μ.1 kD_left ((μ.1 kC_sayingDoor (v5).toNatClampNeg)).toNatClampNeg)))]) dX11_trust_67 (by decide) rfl ?_
      refine m2_iinc hB (ls' := [.ref kC, .int v1, .int (v2 + 1), .int v3, .int v4, .int v5, .int (m2_abs ((μ.1 kC_sayingNumber (v5).toNatClampNeg) - (μ.1 kD_left ((μ.1 kC_sayingDoor (v5).toNatClampNeg)).toNatClampNeg)))]) (v := (v2 + 1)) dX11_trust_69 rfl (by decide) rfl rfl ?_
      refine m2_iload_n hB dX11_trust_72 rfl ?_
      refine m2_iload hB dX11_trust_73 rfl ?_
      have G20 : κ 83 [.ref kC, .int v1, .int (v2 + 1), .int v3, .int v4, .int v5, .int (m2_abs ((μ.1 kC_sayingNumber (v5).toNatClampNeg) - (μ.1 kD_left ((μ.1 kC_sayingDoor (v5).toNatClampNeg)).toNatClampNeg)))] [.int (if (m2_abs ((μ.1 kC_sayingNumber (v5).toNatClampNeg) - (μ.1 kD_left ((μ.1 kC_sayingDoor (v5).toNatClampNeg)).toNatClampNeg))) = 0 then 1 else 0 : Int32), .int v3] μ := by
        refine m2_invSi hB (as := [.int (if (m2_abs ((μ.1 kC_sayingNumber (v5).toNatClampNeg) - (μ.1 kD_left ((μ.1 kC_sayingDoor (v5).toNatClampNeg)).toNatClampNeg))) = 0 then 1 else 0 : Int32)]) dX11_trust_83 ms_X11_151 rfl (Nat.le_of_ble_eq_true rfl) rfl (P_X11_asNumber (by omega) ((if (m2_abs ((μ.1 kC_sayingNumber (v5).toNatClampNeg) - (μ.1 kD_left ((μ.1 kC_sayingDoor (v5).toNatClampNeg)).toNatClampNeg))) = 0 then 1 else 0 : Int32)) _ ) (fun y21 μ22 hq23 => ?_)
        obtain ⟨⟨⟩, hq23⟩ := hq23
        subst μ22
        rw [show (if (if (m2_abs ((μ.1 kC_sayingNumber (v5).toNatClampNeg) - (μ.1 kD_left ((μ.1 kC_sayingDoor (v5).toNatClampNeg)).toNatClampNeg))) = 0 then 1 else 0 : Int32) = 0 then 0 else 1 : Int32) = (if (m2_abs ((μ.1 kC_sayingNumber (v5).toNatClampNeg) - (μ.1 kD_left ((μ.1 kC_sayingDoor (v5).toNatClampNeg)).toNatClampNeg))) = 0 then 1 else 0 : Int32) from by by_cases zz : (m2_abs ((μ.1 kC_sayingNumber (v5).toNatClampNeg) - (μ.1 kD_left ((μ.1 kC_sayingDoor (v5).toNatClampNeg)).toNatClampNeg))) = 0 <;> simp [zz]]
        refine m2_iadd hB dX11_trust_86 ?_
        refine m2_istore_n hB (ls' := [.ref kC, .int v1, .int (v2 + 1), .int (v3 + (if (m2_abs ((μ.1 kC_sayingNumber (v5).toNatClampNeg) - (μ.1 kD_left ((μ.1 kC_sayingDoor (v5).toNatClampNeg)).toNatClampNeg))) = 0 then 1 else 0 : Int32)), .int v4, .int v5, .int (m2_abs ((μ.1 kC_sayingNumber (v5).toNatClampNeg) - (μ.1 kD_left ((μ.1 kC_sayingDoor (v5).toNatClampNeg)).toNatClampNeg)))]) dX11_trust_87 rfl (by decide) rfl ?_
        refine m2_iload hB dX11_trust_88 rfl ?_
        refine m2_iload hB dX11_trust_90 rfl ?_
        refine m2_iadd hB dX11_trust_92 ?_
        refine m2_istore hB (ls' := [.ref kC, .int v1, .int (v2 + 1), .int (v3 + (if (m2_abs ((μ.1 kC_sayingNumber (v5).toNatClampNeg) - (μ.1 kD_left ((μ.1 kC_sayingDoor (v5).toNatClampNeg)).toNatClampNeg))) = 0 then 1 else 0 : Int32)), .int (v4 + (m2_abs ((μ.1 kC_sayingNumber (v5).toNatClampNeg) - (μ.1 kD_left ((μ.1 kC_sayingDoor (v5).toNatClampNeg)).toNatClampNeg)))), .int v5, .int (m2_abs ((μ.1 kC_sayingNumber (v5).toNatClampNeg) - (μ.1 kD_left ((μ.1 kC_sayingDoor (v5).toNatClampNeg)).toNatClampNeg)))]) dX11_trust_93 (by decide) rfl ?_
        refine m2_iinc hB (ls' := [.ref kC, .int v1, .int (v2 + 1), .int (v3 + (if (m2_abs ((μ.1 kC_sayingNumber (v5).toNatClampNeg) - (μ.1 kD_left ((μ.1 kC_sayingDoor (v5).toNatClampNeg)).toNatClampNeg))) = 0 then 1 else 0 : Int32)), .int (v4 + (m2_abs ((μ.1 kC_sayingNumber (v5).toNatClampNeg) - (μ.1 kD_left ((μ.1 kC_sayingDoor (v5).toNatClampNeg)).toNatClampNeg)))), .int (v5 + 1), .int (m2_abs ((μ.1 kC_sayingNumber (v5).toNatClampNeg) - (μ.1 kD_left ((μ.1 kC_sayingDoor (v5).toNatClampNeg)).toNatClampNeg)))]) (v := (v5 + 1)) dX11_trust_95 rfl (by decide) rfl rfl ?_
        refine m2_goto hB dX11_trust_98 (tgt := 21) (by decide) ?_
        exact m2_weak (ls' := [.ref kC, .int v1, .int (v2 + 1), .int (v3 + (if (m2_abs ((μ.1 kC_sayingNumber (v5).toNatClampNeg) - (μ.1 kD_left ((μ.1 kC_sayingDoor (v5).toNatClampNeg)).toNatClampNeg))) = 0 then 1 else 0 : Int32)), .int (v4 + (m2_abs ((μ.1 kC_sayingNumber (v5).toNatClampNeg) - (μ.1 kD_left ((μ.1 kC_sayingDoor (v5).toNatClampNeg)).toNatClampNeg)))), .int (v5 + 1), .null]) hB ⟨Or.inr rfl, Or.inr rfl, Or.inr rfl, Or.inr rfl, Or.inr rfl, Or.inr rfl, Or.inl rfl, trivial⟩ k
      refine m2_if_ne hB dX11_trust_75 (tgt := 82) (by decide) (fun q19 : ¬ (m2_abs ((μ.1 kC_sayingNumber (v5).toNatClampNeg) - (μ.1 kD_left ((μ.1 kC_sayingDoor (v5).toNatClampNeg)).toNatClampNeg))) = 0 => ?_) (fun q19 : (m2_abs ((μ.1 kC_sayingNumber (v5).toNatClampNeg) - (μ.1 kD_left ((μ.1 kC_sayingDoor (v5).toNatClampNeg)).toNatClampNeg))) = 0 => ?_)
      · rw [if_neg q19] at G20
        refine m2_iconst hB dX11_trust_82 (v := 0) (by decide) ?_
        exact G20
      · rw [if_pos q19] at G20
        refine m2_iconst hB dX11_trust_78 (v := 1) (by decide) ?_
        refine m2_goto hB dX11_trust_79 (tgt := 83) (by decide) ?_
        exact G20
theorem dX11_safe_0 : decode cX11_safe 0 = .ok (.aload_n 0, 1) := by decide +kernel
theorem dX11_safe_1 : decode cX11_safe 1 = .ok (.getfield 46, 3) := by decide +kernel
theorem dX11_safe_4 : decode cX11_safe 4 = .ok (.iload_n 1, 1) := by decide +kernel
theorem dX11_safe_5 : decode cX11_safe 5 = .ok (.invokevirtual 164, 3) := by decide +kernel
theorem dX11_safe_8 : decode cX11_safe 8 = .ok (.ifCond .eq 14, 3) := by decide +kernel
theorem dX11_safe_11 : decode cX11_safe 11 = .ok (.iload_n 2, 1) := by decide +kernel
theorem dX11_safe_12 : decode cX11_safe 12 = .ok (.invokestatic 219, 3) := by decide +kernel
theorem dX11_safe_15 : decode cX11_safe 15 = .ok (.ifCond .eq 7, 3) := by decide +kernel
theorem dX11_safe_18 : decode cX11_safe 18 = .ok (.iconst 1, 1) := by decide +kernel
theorem dX11_safe_19 : decode cX11_safe 19 = .ok (.goto 4, 3) := by decide +kernel
theorem dX11_safe_22 : decode cX11_safe 22 = .ok (.iconst 0, 1) := by decide +kernel
theorem dX11_safe_23 : decode cX11_safe 23 = .ok (.istore 5, 2) := by decide +kernel
theorem dX11_safe_25 : decode cX11_safe 25 = .ok (.iload 5, 2) := by decide +kernel
theorem dX11_safe_27 : decode cX11_safe 27 = .ok (.ifCond .eq 26, 3) := by decide +kernel
theorem dX11_safe_30 : decode cX11_safe 30 = .ok (.iload_n 3, 1) := by decide +kernel
theorem dX11_safe_31 : decode cX11_safe 31 = .ok (.iconst 1, 1) := by decide +kernel
theorem dX11_safe_32 : decode cX11_safe 32 = .ok (.if_icmp .lt 21, 3) := by decide +kernel
theorem dX11_safe_35 : decode cX11_safe 35 = .ok (.iload_n 3, 1) := by decide +kernel
theorem dX11_safe_36 : decode cX11_safe 36 = .ok (.bipush 16, 2) := by decide +kernel
theorem dX11_safe_38 : decode cX11_safe 38 = .ok (.if_icmp .ge 15, 3) := by decide +kernel
theorem dX11_safe_41 : decode cX11_safe 41 = .ok (.iload 4, 2) := by decide +kernel
theorem dX11_safe_43 : decode cX11_safe 43 = .ok (.ifCond .lt 10, 3) := by decide +kernel
theorem dX11_safe_46 : decode cX11_safe 46 = .ok (.iload 4, 2) := by decide +kernel
theorem dX11_safe_48 : decode cX11_safe 48 = .ok (.bipush 60, 2) := by decide +kernel
theorem dX11_safe_50 : decode cX11_safe 50 = .ok (.if_icmp .le 5, 3) := by decide +kernel
theorem dX11_safe_53 : decode cX11_safe 53 = .ok (.iconst (-1), 1) := by decide +kernel
theorem dX11_safe_54 : decode cX11_safe 54 = .ok (.ireturn, 1) := by decide +kernel
theorem dX11_safe_55 : decode cX11_safe 55 = .ok (.aload_n 0, 1) := by decide +kernel
theorem dX11_safe_56 : decode cX11_safe 56 = .ok (.getfield 73, 3) := by decide +kernel
theorem dX11_safe_59 : decode cX11_safe 59 = .ok (.invokevirtual 401, 3) := by decide +kernel
theorem dX11_safe_62 : decode cX11_safe 62 = .ok (.iconst 0, 1) := by decide +kernel
theorem dX11_safe_63 : decode cX11_safe 63 = .ok (.istore 6, 2) := by decide +kernel
theorem dX11_safe_65 : decode cX11_safe 65 = .ok (.iload 6, 2) := by decide +kernel
theorem dX11_safe_67 : decode cX11_safe 67 = .ok (.aload_n 0, 1) := by decide +kernel
theorem dX11_safe_68 : decode cX11_safe 68 = .ok (.getfield 395, 3) := by decide +kernel
theorem dX11_safe_71 : decode cX11_safe 71 = .ok (.if_icmp .ge 51, 3) := by decide +kernel
theorem dX11_safe_74 : decode cX11_safe 74 = .ok (.iload_n 3, 1) := by decide +kernel
theorem dX11_safe_75 : decode cX11_safe 75 = .ok (.aload_n 0, 1) := by decide +kernel
theorem dX11_safe_76 : decode cX11_safe 76 = .ok (.getfield 17, 3) := by decide +kernel
theorem dX11_safe_79 : decode cX11_safe 79 = .ok (.iload 6, 2) := by decide +kernel
theorem dX11_safe_81 : decode cX11_safe 81 = .ok (.iaload, 1) := by decide +kernel
theorem dX11_safe_82 : decode cX11_safe 82 = .ok (.invokestatic 404, 3) := by decide +kernel
theorem dX11_safe_85 : decode cX11_safe 85 = .ok (.ifCond .eq 31, 3) := by decide +kernel
theorem dX11_safe_88 : decode cX11_safe 88 = .ok (.aload_n 0, 1) := by decide +kernel
theorem dX11_safe_89 : decode cX11_safe 89 = .ok (.getfield 24, 3) := by decide +kernel
theorem dX11_safe_92 : decode cX11_safe 92 = .ok (.iload 6, 2) := by decide +kernel
theorem dX11_safe_94 : decode cX11_safe 94 = .ok (.iaload, 1) := by decide +kernel
theorem dX11_safe_95 : decode cX11_safe 95 = .ok (.iload 4, 2) := by decide +kernel
theorem dX11_safe_97 : decode cX11_safe 97 = .ok (.if_icmp .le 19, 3) := by decide +kernel
theorem dX11_safe_100 : decode cX11_safe 100 = .ok (.aload_n 0, 1) := by decide +kernel
theorem dX11_safe_101 : decode cX11_safe 101 = .ok (.getfield 73, 3) := by decide +kernel
theorem dX11_safe_104 : decode cX11_safe 104 = .ok (.getfield 407, 3) := by decide +kernel
theorem dX11_safe_107 : decode cX11_safe 107 = .ok (.aload_n 0, 1) := by decide +kernel
theorem dX11_safe_108 : decode cX11_safe 108 = .ok (.getfield 21, 3) := by decide +kernel
theorem dX11_safe_111 : decode cX11_safe 111 = .ok (.iload 6, 2) := by decide +kernel
theorem dX11_safe_113 : decode cX11_safe 113 = .ok (.iaload, 1) := by decide +kernel
theorem dX11_safe_114 : decode cX11_safe 114 = .ok (.iconst 1, 1) := by decide +kernel
theorem dX11_safe_115 : decode cX11_safe 115 = .ok (.iastore, 1) := by decide +kernel
theorem dX11_safe_116 : decode cX11_safe 116 = .ok (.iinc 6 1, 3) := by decide +kernel
theorem dX11_safe_119 : decode cX11_safe 119 = .ok (.goto (-54), 3) := by decide +kernel
theorem dX11_safe_122 : decode cX11_safe 122 = .ok (.aload_n 0, 1) := by decide +kernel
theorem dX11_safe_123 : decode cX11_safe 123 = .ok (.aload_n 0, 1) := by decide +kernel
theorem dX11_safe_124 : decode cX11_safe 124 = .ok (.getfield 73, 3) := by decide +kernel
theorem dX11_safe_127 : decode cX11_safe 127 = .ok (.aload_n 0, 1) := by decide +kernel
theorem dX11_safe_128 : decode cX11_safe 128 = .ok (.getfield 46, 3) := by decide +kernel
theorem dX11_safe_131 : decode cX11_safe 131 = .ok (.getfield 167, 3) := by decide +kernel
theorem dX11_safe_134 : decode cX11_safe 134 = .ok (.iload_n 1, 1) := by decide +kernel
theorem dX11_safe_135 : decode cX11_safe 135 = .ok (.iaload, 1) := by decide +kernel
theorem dX11_safe_136 : decode cX11_safe 136 = .ok (.iload_n 2, 1) := by decide +kernel
theorem dX11_safe_137 : decode cX11_safe 137 = .ok (.invokevirtual 225, 3) := by decide +kernel
theorem dX11_safe_140 : decode cX11_safe 140 = .ok (.invokevirtual 228, 3) := by decide +kernel
theorem dX11_safe_143 : decode cX11_safe 143 = .ok (.ireturn, 1) := by decide +kernel
set_option maxRecDepth 100000 in
set_option maxHeartbeats 4000000 in
theorem B_X11_safe_0 {κ : Nat → List Value → List Value → m2M → Prop} {D : Nat} {Q : Option Value → m2M → Prop} (h : m2_RL κ cX11_safe RX11 7 (D + 1) (some .int) Q) (hD : 0 ≤ D) {x1 : Int32} {x2 : Int32} {x3 : Int32} {x4 : Int32} {μ : m2M} (k : ((fX6_has x1 μ) = 1 → ((fX11_isRoom x2) = 1 → (x3 < 1 → Q (some (.int (-1))) μ) ∧ (¬ x3 < 1 → (16 ≤ x3 → Q (some (.int (-1))) μ) ∧ (¬ 16 ≤ x3 → (x4 < 0 → Q (some (.int (-1))) μ) ∧ (¬ x4 < 0 → (x4 ≤ 60 → ∃ Q15 : Option Value → m2M → Prop, m2_MT D yX8_useNone cX8_useNone 1 none [.ref kR] μ Q15 ∧ ∀ (μ14 : m2M), Q15 none μ14 → (κ 65 [.ref kC, .int x1, .int x2, .int x3, .int x4, .int 1, .int 0] [] μ14)) ∧ (¬ x4 ≤ 60 → Q (some (.int (-1))) μ))))) ∧ (¬ (fX11_isRoom x2) = 1 → Q (some (.int (-1))) μ)) ∧ (¬ (fX6_has x1 μ) = 1 → Q (some (.int (-1))) μ)) : κ 0 [.ref kC, .int x1, .int x2, .int x3, .int x4, .null, .null] [] μ := by
  have hB := h.b
  refine m2_aload_n hB dX11_safe_0 rfl ?_
  refine m2_getR hB dX11_safe_1 fl_X11_46 sh_kC (c1 := kP) rfl ?_
  refine m2_iload_n hB dX11_safe_4 rfl ?_
  refine m2_invz hB (as := [.int x1]) dX11_safe_5 mv_X11_164 rfl sh_kP rfl (Nat.le_of_ble_eq_true rfl) rfl (P_X6_has (by omega) (x1) _ ) (fun y1 μ2 hq3 => ?_)
  obtain ⟨⟨⟩, hq3⟩ := hq3
  subst μ2
  show κ 8 [.ref kC, .int x1, .int x2, .int x3, .int x4, .null, .null] [.int (if (fX6_has x1 μ) = 1 then 1 else 0 : Int32)] μ
  by_cases q4 : (fX6_has x1 μ) = 1
  · rw [if_pos q4]
    replace k := k.1 q4
    refine m2_if_eq hB dX11_safe_8 (tgt := 22) (by decide) (fun q => absurd q (by decide)) (fun _ => ?_)
    refine m2_iload_n hB dX11_safe_11 rfl ?_
    refine m2_invSz hB (as := [.int x2]) dX11_safe_12 ms_X11_219 rfl (Nat.le_of_ble_eq_true rfl) rfl (P_X11_isRoom (by omega) (x2) _ ) (fun y5 μ6 hq7 => ?_)
    obtain ⟨⟨⟩, hq7⟩ := hq7
    subst μ6
    show κ 15 [.ref kC, .int x1, .int x2, .int x3, .int x4, .null, .null] [.int (if (fX11_isRoom x2) = 1 then 1 else 0 : Int32)] μ
    by_cases q8 : (fX11_isRoom x2) = 1
    · rw [if_pos q8]
      replace k := k.1 q8
      refine m2_if_eq hB dX11_safe_15 (tgt := 22) (by decide) (fun q => absurd q (by decide)) (fun _ => ?_)
      refine m2_iconst hB dX11_safe_18 (v := 1) (by decide) ?_
      refine m2_goto hB dX11_safe_19 (tgt := 23) (by decide) ?_
      refine m2_istore hB (ls' := [.ref kC, .int x1, .int x2, .int x3, .int x4, .int 1, .null]) dX11_safe_23 (by decide) rfl ?_
      refine m2_iload hB dX11_safe_25 rfl ?_
      refine m2_if_eq hB dX11_safe_27 (tgt := 53) (by decide) (fun q => absurd q (by decide)) (fun _ => ?_)
      refine m2_iload_n hB dX11_safe_30 rfl ?_
      refine m2_iconst hB dX11_safe_31 (v := 1) (by decide) ?_
      refine m2_icmp_lt hB dX11_safe_32 (tgt := 53) (by decide) (fun q9 : x3 < 1 => ?_) (fun q9 : ¬ x3 < 1 => ?_)
      · replace k := k.1 q9
        refine m2_iconst hB dX11_safe_53 (v := (-1)) (by decide) ?_
        exact m2_iret h dX11_safe_54 k
      · replace k := k.2 q9
        refine m2_iload_n hB dX11_safe_35 rfl ?_
        refine m2_bipush hB dX11_safe_36 (v := 16) (by decide) ?_
        refine m2_icmp_ge hB dX11_safe_38 (tgt := 53) (by decide) (fun q10 : 16 ≤ x3 => ?_) (fun q10 : ¬ 16 ≤ x3 => ?_)
        · replace k := k.1 q10
          refine m2_iconst hB dX11_safe_53 (v := (-1)) (by decide) ?_
          exact m2_iret h dX11_safe_54 k
        · replace k := k.2 q10
          refine m2_iload hB dX11_safe_41 rfl ?_
          refine m2_if_lt hB dX11_safe_43 (tgt := 53) (by decide) (fun q11 : x4 < 0 => ?_) (fun q11 : ¬ x4 < 0 => ?_)
          · replace k := k.1 q11
            refine m2_iconst hB dX11_safe_53 (v := (-1)) (by decide) ?_
            exact m2_iret h dX11_safe_54 k
          · replace k := k.2 q11
            refine m2_iload hB dX11_safe_46 rfl ?_
            refine m2_bipush hB dX11_safe_48 (v := 60) (by decide) ?_
            refine m2_icmp_le hB dX11_safe_50 (tgt := 55) (by decide) (fun q12 : x4 ≤ 60 => ?_) (fun q12 : ¬ x4 ≤ 60 => ?_)
            · replace k := k.1 q12
              refine m2_aload_n hB dX11_safe_55 rfl ?_
              refine m2_getR hB dX11_safe_56 fl_X11_73 sh_kC (c1 := kR) rfl ?_
              obtain ⟨Q15, hM16, k⟩ := k
              refine m2_invv hB (as := []) dX11_safe_59 mv_X11_401 rfl sh_kR rfl (Nat.le_of_ble_eq_true rfl) rfl hM16 (fun μ14 hq17 => ?_)
              replace k := k μ14 hq17
              refine m2_iconst hB dX11_safe_62 (v := 0) (by decide) ?_
              refine m2_istore hB (ls' := [.ref kC, .int x1, .int x2, .int x3, .int x4, .int 1, .int 0]) dX11_safe_63 (by decide) rfl ?_
              exact k
            · replace k := k.2 q12
              refine m2_iconst hB dX11_safe_53 (v := (-1)) (by decide) ?_
              exact m2_iret h dX11_safe_54 k
    · rw [if_neg q8]
      replace k := k.2 q8
      refine m2_if_eq hB dX11_safe_15 (tgt := 22) (by decide) (fun _ => ?_) (fun q => absurd q (by decide))
      refine m2_iconst hB dX11_safe_22 (v := 0) (by decide) ?_
      refine m2_istore hB (ls' := [.ref kC, .int x1, .int x2, .int x3, .int x4, .int 0, .null]) dX11_safe_23 (by decide) rfl ?_
      refine m2_iload hB dX11_safe_25 rfl ?_
      refine m2_if_eq hB dX11_safe_27 (tgt := 53) (by decide) (fun _ => ?_) (fun q => absurd q (by decide))
      refine m2_iconst hB dX11_safe_53 (v := (-1)) (by decide) ?_
      exact m2_iret h dX11_safe_54 k
  · rw [if_neg q4]
    replace k := k.2 q4
    refine m2_if_eq hB dX11_safe_8 (tgt := 22) (by decide) (fun _ => ?_) (fun q => absurd q (by decide))
    refine m2_iconst hB dX11_safe_22 (v := 0) (by decide) ?_
    refine m2_istore hB (ls' := [.ref kC, .int x1, .int x2, .int x3, .int x4, .int 0, .null]) dX11_safe_23 (by decide) rfl ?_
    refine m2_iload hB dX11_safe_25 rfl ?_
    refine m2_if_eq hB dX11_safe_27 (tgt := 53) (by decide) (fun _ => ?_) (fun q => absurd q (by decide))
    refine m2_iconst hB dX11_safe_53 (v := (-1)) (by decide) ?_
    exact m2_iret h dX11_safe_54 k
set_option maxRecDepth 100000 in
set_option maxHeartbeats 4000000 in
theorem B_X11_safe_65 {κ : Nat → List Value → List Value → m2M → Prop} {D : Nat} {Q : Option Value → m2M → Prop} (h : m2_RL κ cX11_safe RX11 7 (D + 1) (some .int) Q) (hD : 0 ≤ D) {v1 : Int32} {v2 : Int32} {v3 : Int32} {v4 : Int32} {v5 : Int32} {v6 : Int32} {μ : m2M} (k : ((μ.1 kC 7) ≤ v6 → (vp_in v1 8) ∧ (∃ Q6 : Option Value → m2M → Prop, m2_MT D yX8_find cX8_find 3 (some .int) [.ref kR, .int (μ.1 kP_where (v1).toNatClampNeg), .int v2] μ Q6 ∧ ∀ (y4 : Int32) (μ5 : m2M), Q6 (some (.int y4)) μ5 → (∃ Q11 : Option Value → m2M → Prop, m2_MT D yX11_tellRoute cX11_tellRoute 3 (some .int) [.ref kC, .int y4] μ5 Q11 ∧ ∀ (y9 : Int32) (μ10 : m2M), Q11 (some (.int y9)) μ10 → (Q (some (.int y9)) μ10)))) ∧ (¬ (μ.1 kC 7) ≤ v6 → (vp_in v6 20) ∧ (((fX11_hasBit v3 (μ.1 kC_sayingMaid (v6).toNatClampNeg)) = 1 → ((μ.1 kC_sayingNumber (v6).toNatClampNeg) ≤ v4 → κ 65 [.ref kC, .int v1, .int v2, .int v3, .int v4, .int v5, .int (v6 + 1)] [] μ) ∧ (¬ (μ.1 kC_sayingNumber (v6).toNatClampNeg) ≤ v4 → (vp_in (μ.1 kC_sayingDoor (v6).toNatClampNeg) 20) ∧ (κ 65 [.ref kC, .int v1, .int v2, .int v3, .int v4, .int v5, .int (v6 + 1)] [] (m2_si μ kR_cost ((μ.1 kC_sayingDoor (v6).toNatClampNeg)).toNatClampNeg 1)))) ∧ (¬ (fX11_hasBit v3 (μ.1 kC_sayingMaid (v6).toNatClampNeg)) = 1 → κ 65 [.ref kC, .int v1, .int v2, .int v3, .int v4, .int v5, .int (v6 + 1)] [] μ)))) : κ 65 [.ref kC, .int v1, .int v2, .int v3, .int v4, .int v5, .int v6] [] μ := by
  have hB := h.b
  refine m2_iload hB dX11_safe_65 rfl ?_
  refine m2_aload_n hB dX11_safe_67 rfl ?_
  refine m2_getI hB dX11_safe_68 fl_X11_395 sh_kC rfl ?_
  refine m2_icmp_ge hB dX11_safe_71 (tgt := 122) (by decide) (fun q2 : (μ.1 kC 7) ≤ v6 => ?_) (fun q2 : ¬ (μ.1 kC 7) ≤ v6 => ?_)
  · replace k := k.1 q2
    refine m2_aload_n hB dX11_safe_122 rfl ?_
    refine m2_aload_n hB dX11_safe_123 rfl ?_
    refine m2_getR hB dX11_safe_124 fl_X11_73 sh_kC (c1 := kR) rfl ?_
    refine m2_aload_n hB dX11_safe_127 rfl ?_
    refine m2_getR hB dX11_safe_128 fl_X11_46 sh_kC (c1 := kP) rfl ?_
    refine m2_getR hB dX11_safe_131 fl_X11_167 sh_kP (c1 := kP_where) rfl ?_
    refine m2_iload_n hB dX11_safe_134 rfl ?_
    obtain ⟨hi3, k⟩ := k
    refine m2_iald hB dX11_safe_135 sh_kP_where hi3 ?_
    refine m2_iload_n hB dX11_safe_136 rfl ?_
    obtain ⟨Q6, hM7, k⟩ := k
    refine m2_invi hB (as := [.int (μ.1 kP_where (v1).toNatClampNeg), .int v2]) dX11_safe_137 mv_X11_225 rfl sh_kR rfl (Nat.le_of_ble_eq_true rfl) rfl hM7 (fun y4 μ5 hq8 => ?_)
    replace k := k y4 μ5 hq8
    obtain ⟨Q11, hM12, k⟩ := k
    refine m2_invi hB (as := [.int y4]) dX11_safe_140 mv_X11_228 rfl sh_kC rfl (Nat.le_of_ble_eq_true rfl) rfl hM12 (fun y9 μ10 hq13 => ?_)
    replace k := k y9 μ10 hq13
    exact m2_iret h dX11_safe_143 k
  · replace k := k.2 q2
    refine m2_iload_n hB dX11_safe_74 rfl ?_
    refine m2_aload_n hB dX11_safe_75 rfl ?_
    refine m2_getR hB dX11_safe_76 fl_X11_17 sh_kC (c1 := kC_sayingMaid) rfl ?_
    refine m2_iload hB dX11_safe_79 rfl ?_
    obtain ⟨hi14, k⟩ := k
    refine m2_iald hB dX11_safe_81 sh_kC_sayingMaid hi14 ?_
    refine m2_invSz hB (as := [.int v3, .int (μ.1 kC_sayingMaid (v6).toNatClampNeg)]) dX11_safe_82 ms_X11_404 rfl (Nat.le_of_ble_eq_true rfl) rfl (P_X11_hasBit (by omega) (v3) ((μ.1 kC_sayingMaid (v6).toNatClampNeg)) _ ) (fun y15 μ16 hq17 => ?_)
    obtain ⟨⟨⟩, hq17⟩ := hq17
    subst μ16
    show κ 85 [.ref kC, .int v1, .int v2, .int v3, .int v4, .int v5, .int v6] [.int (if (fX11_hasBit v3 (μ.1 kC_sayingMaid (v6).toNatClampNeg)) = 1 then 1 else 0 : Int32)] μ
    by_cases q18 : (fX11_hasBit v3 (μ.1 kC_sayingMaid (v6).toNatClampNeg)) = 1
    · rw [if_pos q18]
      replace k := k.1 q18
      refine m2_if_eq hB dX11_safe_85 (tgt := 116) (by decide) (fun q => absurd q (by decide)) (fun _ => ?_)
      refine m2_aload_n hB dX11_safe_88 rfl ?_
      refine m2_getR hB dX11_safe_89 fl_X11_24 sh_kC (c1 := kC_sayingNumber) rfl ?_
      refine m2_iload hB dX11_safe_92 rfl ?_
      have hi19 := hi14
      refine m2_iald hB dX11_safe_94 sh_kC_sayingNumber hi19 ?_
      refine m2_iload hB dX11_safe_95 rfl ?_
      refine m2_icmp_le hB dX11_safe_97 (tgt := 116) (by decide) (fun q21 : (μ.1 kC_sayingNumber (v6).toNatClampNeg) ≤ v4 => ?_) (fun q21 : ¬ (μ.1 kC_sayingNumber (v6).toNatClampNeg) ≤ v4 => ?_)
      · replace k := k.1 q21
        refine m2_iinc hB (ls' := [.ref kC, .int v1, .int v2, .int v3, .int v4, .int v5, .int (v6 + 1)]) (v := (v6 + 1)) dX11_safe_116 rfl (by decide) rfl rfl ?_
        refine m2_goto hB dX11_safe_119 (tgt := 65) (by decide) ?_
        exact k
      · replace k := k.2 q21
        refine m2_aload_n hB dX11_safe_100 rfl ?_
        refine m2_getR hB dX11_safe_101 fl_X11_73 sh_kC (c1 := kR) rfl ?_
        refine m2_getR hB dX11_safe_104 fl_X11_407 sh_kR (c1 := kR_cost) rfl ?_
        refine m2_aload_n hB dX11_safe_107 rfl ?_
        refine m2_getR hB dX11_safe_108 fl_X11_21 sh_kC (c1 := kC_sayingDoor) rfl ?_
        refine m2_iload hB dX11_safe_111 rfl ?_
        have hi22 := hi14
        refine m2_iald hB dX11_safe_113 sh_kC_sayingDoor hi22 ?_
        refine m2_iconst hB dX11_safe_114 (v := 1) (by decide) ?_
        obtain ⟨hi23, k⟩ := k
        refine m2_iast hB dX11_safe_115 sh_kR_cost hi23 ?_
        refine m2_iinc hB (ls' := [.ref kC, .int v1, .int v2, .int v3, .int v4, .int v5, .int (v6 + 1)]) (v := (v6 + 1)) dX11_safe_116 rfl (by decide) rfl rfl ?_
        refine m2_goto hB dX11_safe_119 (tgt := 65) (by decide) ?_
        exact k
    · rw [if_neg q18]
      replace k := k.2 q18
      refine m2_if_eq hB dX11_safe_85 (tgt := 116) (by decide) (fun _ => ?_) (fun q => absurd q (by decide))
      refine m2_iinc hB (ls' := [.ref kC, .int v1, .int v2, .int v3, .int v4, .int v5, .int (v6 + 1)]) (v := (v6 + 1)) dX11_safe_116 rfl (by decide) rfl rfl ?_
      refine m2_goto hB dX11_safe_119 (tgt := 65) (by decide) ?_
      exact k
theorem dX11_put_0 : decode cX11_put 0 = .ok (.iload_n 1, 1) := by decide +kernel
theorem dX11_put_1 : decode cX11_put 1 = .ok (.ifCond .lt 8, 3) := by decide +kernel
theorem dX11_put_4 : decode cX11_put 4 = .ok (.iload_n 1, 1) := by decide +kernel
theorem dX11_put_5 : decode cX11_put 5 = .ok (.iconst 3, 1) := by decide +kernel
theorem dX11_put_6 : decode cX11_put 6 = .ok (.if_icmp .lt 5, 3) := by decide +kernel
theorem dX11_put_9 : decode cX11_put 9 = .ok (.iconst 0, 1) := by decide +kernel
theorem dX11_put_10 : decode cX11_put 10 = .ok (.ireturn, 1) := by decide +kernel
theorem dX11_put_11 : decode cX11_put 11 = .ok (.aload_n 0, 1) := by decide +kernel
theorem dX11_put_12 : decode cX11_put 12 = .ok (.getfield 32, 3) := by decide +kernel
theorem dX11_put_15 : decode cX11_put 15 = .ok (.iload_n 1, 1) := by decide +kernel
theorem dX11_put_16 : decode cX11_put 16 = .ok (.aaload, 1) := by decide +kernel
theorem dX11_put_17 : decode cX11_put 17 = .ok (.aload_n 0, 1) := by decide +kernel
theorem dX11_put_18 : decode cX11_put 18 = .ok (.getfield 39, 3) := by decide +kernel
theorem dX11_put_21 : decode cX11_put 21 = .ok (.aload_n 0, 1) := by decide +kernel
theorem dX11_put_22 : decode cX11_put 22 = .ok (.getfield 46, 3) := by decide +kernel
theorem dX11_put_25 : decode cX11_put 25 = .ok (.invokevirtual 255, 3) := by decide +kernel
theorem dX11_put_28 : decode cX11_put 28 = .ok (.iconst 1, 1) := by decide +kernel
theorem dX11_put_29 : decode cX11_put 29 = .ok (.ireturn, 1) := by decide +kernel
set_option maxRecDepth 100000 in
set_option maxHeartbeats 4000000 in
theorem B_X11_put_0 {κ : Nat → List Value → List Value → m2M → Prop} {D : Nat} {Q : Option Value → m2M → Prop} (h : m2_RL κ cX11_put RX11 2 (D + 1) (some .boolean) Q) {x1 : Int32} {μ : m2M} (k : (x1 < 0 → Q (some (.int 0)) μ) ∧ (¬ x1 < 0 → (x1 < 3 → ∃ j3 : Nat, x1 = nI j3 ∧ j3 < 4 ∧ (∃ Q7 : Option Value → m2M → Prop, m2_MT D yX3_take cX3_take 4 none [.ref (kK j3), .ref kD, .ref kP] μ Q7 ∧ ∀ (μ6 : m2M), Q7 none μ6 → (Q (some (.int 1)) μ6))) ∧ (¬ x1 < 3 → Q (some (.int 0)) μ))) : κ 0 [.ref kC, .int x1] [] μ := by
  have hB := h.b
  refine m2_iload_n hB dX11_put_0 rfl ?_
  refine m2_if_lt hB dX11_put_1 (tgt := 9) (by decide) (fun q1 : x1 < 0 => ?_) (fun q1 : ¬ x1 < 0 => ?_)
  · replace k := k.1 q1
    refine m2_iconst hB dX11_put_9 (v := 0) (by decide) ?_
    exact m2_zret h dX11_put_10 (Or.inl rfl) k
  · replace k := k.2 q1
    refine m2_iload_n hB dX11_put_4 rfl ?_
    refine m2_iconst hB dX11_put_5 (v := 3) (by decide) ?_
    refine m2_icmp_lt hB dX11_put_6 (tgt := 11) (by decide) (fun q2 : x1 < 3 => ?_) (fun q2 : ¬ x1 < 3 => ?_)
    · replace k := k.1 q2
      refine m2_aload_n hB dX11_put_11 rfl ?_
      refine m2_getR hB dX11_put_12 fl_X11_32 sh_kC (c1 := kC_kept) rfl ?_
      refine m2_iload_n hB dX11_put_15 rfl ?_
      obtain ⟨j3, e4, h_j3, k⟩ := k
      refine m2_aald hB dX11_put_16 sh_kC_kept (Or.inl rfl) (ar_kept e4 h_j3).1 (ar_kept e4 h_j3).2 ?_
      have h_j3 : j3 < 10 := by omega
      refine m2_aload_n hB dX11_put_17 rfl ?_
      refine m2_getR hB dX11_put_18 fl_X11_39 sh_kC (c1 := kD) rfl ?_
      refine m2_aload_n hB dX11_put_21 rfl ?_
      refine m2_getR hB dX11_put_22 fl_X11_46 sh_kC (c1 := kP) rfl ?_
      obtain ⟨Q7, hM8, k⟩ := k
      refine m2_invv hB (as := [.ref kD, .ref kP]) dX11_put_25 mv_X11_255 rfl (sh_kK h_j3) rfl (Nat.le_of_ble_eq_true rfl) rfl hM8 (fun μ6 hq9 => ?_)
      replace k := k μ6 hq9
      refine m2_iconst hB dX11_put_28 (v := 1) (by decide) ?_
      exact m2_zret h dX11_put_29 (Or.inr rfl) k
    · replace k := k.2 q2
      refine m2_iconst hB dX11_put_9 (v := 0) (by decide) ?_
      exact m2_zret h dX11_put_10 (Or.inl rfl) k
theorem dX11_again_0 : decode cX11_again 0 = .ok (.iload_n 1, 1) := by decide +kernel
theorem dX11_again_1 : decode cX11_again 1 = .ok (.ifCond .lt 20, 3) := by decide +kernel
theorem dX11_again_4 : decode cX11_again 4 = .ok (.iload_n 1, 1) := by decide +kernel
theorem dX11_again_5 : decode cX11_again 5 = .ok (.iconst 3, 1) := by decide +kernel
theorem dX11_again_6 : decode cX11_again 6 = .ok (.if_icmp .ge 15, 3) := by decide +kernel
theorem dX11_again_9 : decode cX11_again 9 = .ok (.aload_n 0, 1) := by decide +kernel
theorem dX11_again_10 : decode cX11_again 10 = .ok (.getfield 32, 3) := by decide +kernel
theorem dX11_again_13 : decode cX11_again 13 = .ok (.iload_n 1, 1) := by decide +kernel
theorem dX11_again_14 : decode cX11_again 14 = .ok (.aaload, 1) := by decide +kernel
theorem dX11_again_15 : decode cX11_again 15 = .ok (.getfield 410, 3) := by decide +kernel
theorem dX11_again_18 : decode cX11_again 18 = .ok (.ifCond .ne 5, 3) := by decide +kernel
theorem dX11_again_21 : decode cX11_again 21 = .ok (.iconst 0, 1) := by decide +kernel
theorem dX11_again_22 : decode cX11_again 22 = .ok (.ireturn, 1) := by decide +kernel
theorem dX11_again_23 : decode cX11_again 23 = .ok (.aload_n 0, 1) := by decide +kernel
theorem dX11_again_24 : decode cX11_again 24 = .ok (.getfield 32, 3) := by decide +kernel
theorem dX11_again_27 : decode cX11_again 27 = .ok (.iload_n 1, 1) := by decide +kernel
theorem dX11_again_28 : decode cX11_again 28 = .ok (.aaload, 1) := by decide +kernel
theorem dX11_again_29 : decode cX11_again 29 = .ok (.aload_n 0, 1) := by decide +kernel
theorem dX11_again_30 : decode cX11_again 30 = .ok (.getfield 39, 3) := by decide +kernel
theorem dX11_again_33 : decode cX11_again 33 = .ok (.aload_n 0, 1) := by decide +kernel
theorem dX11_again_34 : decode cX11_again 34 = .ok (.getfield 46, 3) := by decide +kernel
theorem dX11_again_37 : decode cX11_again 37 = .ok (.invokevirtual 262, 3) := by decide +kernel
theorem dX11_again_40 : decode cX11_again 40 = .ok (.iconst 1, 1) := by decide +kernel
theorem dX11_again_41 : decode cX11_again 41 = .ok (.ireturn, 1) := by decide +kernel
set_option maxRecDepth 100000 in
set_option maxHeartbeats 4000000 in
theorem B_X11_again_0 {κ : Nat → List Value → List Value → m2M → Prop} {D : Nat} {Q : Option Value → m2M → Prop} (h : m2_RL κ cX11_again RX11 2 (D + 1) (some .boolean) Q) {x1 : Int32} {μ : m2M} (k : (x1 < 0 → Q (some (.int 0)) μ) ∧ (¬ x1 < 0 → (3 ≤ x1 → Q (some (.int 0)) μ) ∧ (¬ 3 ≤ x1 → ∃ j3 : Nat, x1 = nI j3 ∧ j3 < 4 ∧ ((¬ (μ.1 (kK j3) 7) = 0 → ∃ j6 : Nat, x1 = nI j6 ∧ j6 < 4 ∧ (∃ Q10 : Option Value → m2M → Prop, m2_MT D yX3_giveBack cX3_giveBack 4 none [.ref (kK j6), .ref kD, .ref kP] μ Q10 ∧ ∀ (μ9 : m2M), Q10 none μ9 → (Q (some (.int 1)) μ9))) ∧ ((μ.1 (kK j3) 7) = 0 → Q (some (.int 0)) μ))))) : κ 0 [.ref kC, .int x1] [] μ := by
  have hB := h.b
  refine m2_iload_n hB dX11_again_0 rfl ?_
  refine m2_if_lt hB dX11_again_1 (tgt := 21) (by decide) (fun q1 : x1 < 0 => ?_) (fun q1 : ¬ x1 < 0 => ?_)
  · replace k := k.1 q1
    refine m2_iconst hB dX11_again_21 (v := 0) (by decide) ?_
    exact m2_zret h dX11_again_22 (Or.inl rfl) k
  · replace k := k.2 q1
    refine m2_iload_n hB dX11_again_4 rfl ?_
    refine m2_iconst hB dX11_again_5 (v := 3) (by decide) ?_
    refine m2_icmp_ge hB dX11_again_6 (tgt := 21) (by decide) (fun q2 : 3 ≤ x1 => ?_) (fun q2 : ¬ 3 ≤ x1 => ?_)
    · replace k := k.1 q2
      refine m2_iconst hB dX11_again_21 (v := 0) (by decide) ?_
      exact m2_zret h dX11_again_22 (Or.inl rfl) k
    · replace k := k.2 q2
      refine m2_aload_n hB dX11_again_9 rfl ?_
      refine m2_getR hB dX11_again_10 fl_X11_32 sh_kC (c1 := kC_kept) rfl ?_
      refine m2_iload_n hB dX11_again_13 rfl ?_
      obtain ⟨j3, e4, h_j3, k⟩ := k
      refine m2_aald hB dX11_again_14 sh_kC_kept (Or.inl rfl) (ar_kept e4 h_j3).1 (ar_kept e4 h_j3).2 ?_
      have h_j3 : j3 < 10 := by omega
      refine m2_getI hB dX11_again_15 fl_X11_410 (sh_kK h_j3) rfl ?_
      refine m2_if_ne hB dX11_again_18 (tgt := 23) (by decide) (fun q5 : ¬ (μ.1 (kK j3) 7) = 0 => ?_) (fun q5 : (μ.1 (kK j3) 7) = 0 => ?_)
      · replace k := k.1 q5
        refine m2_aload_n hB dX11_again_23 rfl ?_
        refine m2_getR hB dX11_again_24 fl_X11_32 sh_kC (c1 := kC_kept) rfl ?_
        refine m2_iload_n hB dX11_again_27 rfl ?_
        obtain ⟨j6, e7, h_j6, k⟩ := k
        refine m2_aald hB dX11_again_28 sh_kC_kept (Or.inl rfl) (ar_kept e7 h_j6).1 (ar_kept e7 h_j6).2 ?_
        have h_j6 : j6 < 10 := by omega
        refine m2_aload_n hB dX11_again_29 rfl ?_
        refine m2_getR hB dX11_again_30 fl_X11_39 sh_kC (c1 := kD) rfl ?_
        refine m2_aload_n hB dX11_again_33 rfl ?_
        refine m2_getR hB dX11_again_34 fl_X11_46 sh_kC (c1 := kP) rfl ?_
        obtain ⟨Q10, hM11, k⟩ := k
        refine m2_invv hB (as := [.ref kD, .ref kP]) dX11_again_37 mv_X11_262 rfl (sh_kK h_j6) rfl (Nat.le_of_ble_eq_true rfl) rfl hM11 (fun μ9 hq12 => ?_)
        replace k := k μ9 hq12
        refine m2_iconst hB dX11_again_40 (v := 1) (by decide) ?_
        exact m2_zret h dX11_again_41 (Or.inr rfl) k
      · replace k := k.2 q5
        refine m2_iconst hB dX11_again_21 (v := 0) (by decide) ?_
        exact m2_zret h dX11_again_22 (Or.inl rfl) k
theorem dX11_count_0 : decode cX11_count 0 = .ok (.iload_n 1, 1) := by decide +kernel
theorem dX11_count_1 : decode cX11_count 1 = .ok (.tableswitch 126 0 9 #[55, 63, 71, 79, 87, 95, 100, 108, 113, 118], 55) := by decide +kernel
theorem dX11_count_56 : decode cX11_count 56 = .ok (.aload_n 0, 1) := by decide +kernel
theorem dX11_count_57 : decode cX11_count 57 = .ok (.getfield 39, 3) := by decide +kernel
theorem dX11_count_60 : decode cX11_count 60 = .ok (.getfield 191, 3) := by decide +kernel
theorem dX11_count_63 : decode cX11_count 63 = .ok (.ireturn, 1) := by decide +kernel
theorem dX11_count_64 : decode cX11_count 64 = .ok (.aload_n 0, 1) := by decide +kernel
theorem dX11_count_65 : decode cX11_count 65 = .ok (.getfield 46, 3) := by decide +kernel
theorem dX11_count_68 : decode cX11_count 68 = .ok (.getfield 353, 3) := by decide +kernel
theorem dX11_count_71 : decode cX11_count 71 = .ok (.ireturn, 1) := by decide +kernel
theorem dX11_count_72 : decode cX11_count 72 = .ok (.aload_n 0, 1) := by decide +kernel
theorem dX11_count_73 : decode cX11_count 73 = .ok (.getfield 39, 3) := by decide +kernel
theorem dX11_count_76 : decode cX11_count 76 = .ok (.getfield 205, 3) := by decide +kernel
theorem dX11_count_79 : decode cX11_count 79 = .ok (.ireturn, 1) := by decide +kernel
theorem dX11_count_80 : decode cX11_count 80 = .ok (.aload_n 0, 1) := by decide +kernel
theorem dX11_count_81 : decode cX11_count 81 = .ok (.getfield 39, 3) := by decide +kernel
theorem dX11_count_84 : decode cX11_count 84 = .ok (.invokevirtual 413, 3) := by decide +kernel
theorem dX11_count_87 : decode cX11_count 87 = .ok (.ireturn, 1) := by decide +kernel
theorem dX11_count_88 : decode cX11_count 88 = .ok (.aload_n 0, 1) := by decide +kernel
theorem dX11_count_89 : decode cX11_count 89 = .ok (.getfield 39, 3) := by decide +kernel
theorem dX11_count_92 : decode cX11_count 92 = .ok (.invokevirtual 198, 3) := by decide +kernel
theorem dX11_count_95 : decode cX11_count 95 = .ok (.ireturn, 1) := by decide +kernel
theorem dX11_count_96 : decode cX11_count 96 = .ok (.aload_n 0, 1) := by decide +kernel
theorem dX11_count_97 : decode cX11_count 97 = .ok (.getfield 395, 3) := by decide +kernel
theorem dX11_count_100 : decode cX11_count 100 = .ok (.ireturn, 1) := by decide +kernel
theorem dX11_count_101 : decode cX11_count 101 = .ok (.aload_n 0, 1) := by decide +kernel
theorem dX11_count_102 : decode cX11_count 102 = .ok (.getfield 89, 3) := by decide +kernel
theorem dX11_count_105 : decode cX11_count 105 = .ok (.getfield 202, 3) := by decide +kernel
theorem dX11_count_108 : decode cX11_count 108 = .ok (.ireturn, 1) := by decide +kernel
theorem dX11_count_109 : decode cX11_count 109 = .ok (.aload_n 0, 1) := by decide +kernel
theorem dX11_count_110 : decode cX11_count 110 = .ok (.getfield 240, 3) := by decide +kernel
theorem dX11_count_113 : decode cX11_count 113 = .ok (.ireturn, 1) := by decide +kernel
theorem dX11_count_114 : decode cX11_count 114 = .ok (.aload_n 0, 1) := by decide +kernel
theorem dX11_count_115 : decode cX11_count 115 = .ok (.getfield 121, 3) := by decide +kernel
theorem dX11_count_118 : decode cX11_count 118 = .ok (.ireturn, 1) := by decide +kernel
theorem dX11_count_119 : decode cX11_count 119 = .ok (.aload_n 0, 1) := by decide +kernel
theorem dX11_count_120 : decode cX11_count 120 = .ok (.getfield 46, 3) := by decide +kernel
theorem dX11_count_123 : decode cX11_count 123 = .ok (.invokevirtual 416, 3) := by decide +kernel
theorem dX11_count_126 : decode cX11_count 126 = .ok (.ireturn, 1) := by decide +kernel
theorem dX11_count_127 : decode cX11_count 127 = .ok (.iconst (-1), 1) := by decide +kernel
theorem dX11_count_128 : decode cX11_count 128 = .ok (.ireturn, 1) := by decide +kernel
set_option maxRecDepth 100000 in
set_option maxHeartbeats 4000000 in
theorem B_X11_count_0 {κ : Nat → List Value → List Value → m2M → Prop} {D : Nat} {Q : Option Value → m2M → Prop} (h : m2_RL κ cX11_count RX11 2 (D + 1) (some .int) Q) {x1 : Int32} {μ : m2M} (k : (x1 = 0 → Q (some (.int (μ.1 kD 6))) μ) ∧ (¬ x1 = 0 → (x1 = 1 → Q (some (.int (μ.1 kP 8))) μ) ∧ (¬ x1 = 1 → (x1 = 2 → Q (some (.int (μ.1 kD 7))) μ) ∧ (¬ x1 = 2 → (x1 = 3 → ∃ Q7 : Option Value → m2M → Prop, m2_MT D yX0_openBits cX0_openBits 3 (some .int) [.ref kD] μ Q7 ∧ ∀ (y5 : Int32) (μ6 : m2M), Q7 (some (.int y5)) μ6 → (Q (some (.int y5)) μ6)) ∧ (¬ x1 = 3 → (x1 = 4 → ∃ Q13 : Option Value → m2M → Prop, m2_MT D yX0_sumLeft cX0_sumLeft 3 (some .int) [.ref kD] μ Q13 ∧ ∀ (y11 : Int32) (μ12 : m2M), Q13 (some (.int y11)) μ12 → (Q (some (.int y11)) μ12)) ∧ (¬ x1 = 4 → (x1 = 5 → Q (some (.int (μ.1 kC 7))) μ) ∧ (¬ x1 = 5 → (x1 = 6 → Q (some (.int (μ.1 kW 6))) μ) ∧ (¬ x1 = 6 → (x1 = 7 → Q (some (.int (μ.1 kC 3))) μ) ∧ (¬ x1 = 7 → (x1 = 8 → Q (some (.int (μ.1 kC 1))) μ) ∧ (¬ x1 = 8 → (x1 = 9 → ∃ Q23 : Option Value → m2M → Prop, m2_MT D yX6_doneBits cX6_doneBits 3 (some .int) [.ref kP] μ Q23 ∧ ∀ (y21 : Int32) (μ22 : m2M), Q23 (some (.int y21)) μ22 → (Q (some (.int y21)) μ22)) ∧ (¬ x1 = 9 → Q (some (.int (-1))) μ))))))))))) : κ 0 [.ref kC, .int x1] [] μ := by
  have hB := h.b
  refine m2_iload_n hB dX11_count_0 rfl ?_
  by_cases q1 : x1 = 0
  · replace k := k.1 q1
    refine m2_tableIn hB dX11_count_1 (off := 55) (tgt := 56) (by rw [q1]; decide) (by rw [q1]; decide) (by rw [q1]; decide) (by decide) ?_
    refine m2_aload_n hB dX11_count_56 rfl ?_
    refine m2_getR hB dX11_count_57 fl_X11_39 sh_kC (c1 := kD) rfl ?_
    refine m2_getI hB dX11_count_60 fl_X11_191 sh_kD rfl ?_
    exact m2_iret h dX11_count_63 k
  replace k := k.2 q1
  by_cases q2 : x1 = 1
  · replace k := k.1 q2
    refine m2_tableIn hB dX11_count_1 (off := 63) (tgt := 64) (by rw [q2]; decide) (by rw [q2]; decide) (by rw [q2]; decide) (by decide) ?_
    refine m2_aload_n hB dX11_count_64 rfl ?_
    refine m2_getR hB dX11_count_65 fl_X11_46 sh_kC (c1 := kP) rfl ?_
    refine m2_getI hB dX11_count_68 fl_X11_353 sh_kP rfl ?_
    exact m2_iret h dX11_count_71 k
  replace k := k.2 q2
  by_cases q3 : x1 = 2
  · replace k := k.1 q3
    refine m2_tableIn hB dX11_count_1 (off := 71) (tgt := 72) (by rw [q3]; decide) (by rw [q3]; decide) (by rw [q3]; decide) (by decide) ?_
    refine m2_aload_n hB dX11_count_72 rfl ?_
    refine m2_getR hB dX11_count_73 fl_X11_39 sh_kC (c1 := kD) rfl ?_
    refine m2_getI hB dX11_count_76 fl_X11_205 sh_kD rfl ?_
    exact m2_iret h dX11_count_79 k
  replace k := k.2 q3
  by_cases q4 : x1 = 3
  · replace k := k.1 q4
    refine m2_tableIn hB dX11_count_1 (off := 79) (tgt := 80) (by rw [q4]; decide) (by rw [q4]; decide) (by rw [q4]; decide) (by decide) ?_
    refine m2_aload_n hB dX11_count_80 rfl ?_
    refine m2_getR hB dX11_count_81 fl_X11_39 sh_kC (c1 := kD) rfl ?_
    obtain ⟨Q7, hM8, k⟩ := k
    refine m2_invi hB (as := []) dX11_count_84 mv_X11_413 rfl sh_kD rfl (Nat.le_of_ble_eq_true rfl) rfl hM8 (fun y5 μ6 hq9 => ?_)
    replace k := k y5 μ6 hq9
    exact m2_iret h dX11_count_87 k
  replace k := k.2 q4
  by_cases q10 : x1 = 4
  · replace k := k.1 q10
    refine m2_tableIn hB dX11_count_1 (off := 87) (tgt := 88) (by rw [q10]; decide) (by rw [q10]; decide) (by rw [q10]; decide) (by decide) ?_
    refine m2_aload_n hB dX11_count_88 rfl ?_
    refine m2_getR hB dX11_count_89 fl_X11_39 sh_kC (c1 := kD) rfl ?_
    obtain ⟨Q13, hM14, k⟩ := k
    refine m2_invi hB (as := []) dX11_count_92 mv_X11_198 rfl sh_kD rfl (Nat.le_of_ble_eq_true rfl) rfl hM14 (fun y11 μ12 hq15 => ?_)
    replace k := k y11 μ12 hq15
    exact m2_iret h dX11_count_95 k
  replace k := k.2 q10
  by_cases q16 : x1 = 5
  · replace k := k.1 q16
    refine m2_tableIn hB dX11_count_1 (off := 95) (tgt := 96) (by rw [q16]; decide) (by rw [q16]; decide) (by rw [q16]; decide) (by decide) ?_
    refine m2_aload_n hB dX11_count_96 rfl ?_
    refine m2_getI hB dX11_count_97 fl_X11_395 sh_kC rfl ?_
    exact m2_iret h dX11_count_100 k
  replace k := k.2 q16
  by_cases q17 : x1 = 6
  · replace k := k.1 q17
    refine m2_tableIn hB dX11_count_1 (off := 100) (tgt := 101) (by rw [q17]; decide) (by rw [q17]; decide) (by rw [q17]; decide) (by decide) ?_
    refine m2_aload_n hB dX11_count_101 rfl ?_
    refine m2_getR hB dX11_count_102 fl_X11_89 sh_kC (c1 := kW) rfl ?_
    refine m2_getI hB dX11_count_105 fl_X11_202 sh_kW rfl ?_
    exact m2_iret h dX11_count_108 k
  replace k := k.2 q17
  by_cases q18 : x1 = 7
  · replace k := k.1 q18
    refine m2_tableIn hB dX11_count_1 (off := 108) (tgt := 109) (by rw [q18]; decide) (by rw [q18]; decide) (by rw [q18]; decide) (by decide) ?_
    refine m2_aload_n hB dX11_count_109 rfl ?_
    refine m2_getI hB dX11_count_110 fl_X11_240 sh_kC rfl ?_
    exact m2_iret h dX11_count_113 k
  replace k := k.2 q18
  by_cases q19 : x1 = 8
  · replace k := k.1 q19
    refine m2_tableIn hB dX11_count_1 (off := 113) (tgt := 114) (by rw [q19]; decide) (by rw [q19]; decide) (by rw [q19]; decide) (by decide) ?_
    refine m2_aload_n hB dX11_count_114 rfl ?_
    refine m2_getI hB dX11_count_115 fl_X11_121 sh_kC rfl ?_
    exact m2_iret h dX11_count_118 k
  replace k := k.2 q19
  by_cases q20 : x1 = 9
  · replace k := k.1 q20
    refine m2_tableIn hB dX11_count_1 (off := 118) (tgt := 119) (by rw [q20]; decide) (by rw [q20]; decide) (by rw [q20]; decide) (by decide) ?_
    refine m2_aload_n hB dX11_count_119 rfl ?_
    refine m2_getR hB dX11_count_120 fl_X11_46 sh_kC (c1 := kP) rfl ?_
    obtain ⟨Q23, hM24, k⟩ := k
    refine m2_invi hB (as := []) dX11_count_123 mv_X11_416 rfl sh_kP rfl (Nat.le_of_ble_eq_true rfl) rfl hM24 (fun y21 μ22 hq25 => ?_)
    replace k := k y21 μ22 hq25
    exact m2_iret h dX11_count_126 k
  replace k := k.2 q20
  refine m2_tableOut hB dX11_count_1 (tgt := 127) (by have z0 := lv_neT q1 (show (0 : Int32).toInt = 0 by decide); have z1 := lv_neT q2 (show (1 : Int32).toInt = 1 by decide); have z2 := lv_neT q3 (show (2 : Int32).toInt = 2 by decide); have z3 := lv_neT q4 (show (3 : Int32).toInt = 3 by decide); have z4 := lv_neT q10 (show (4 : Int32).toInt = 4 by decide); have z5 := lv_neT q16 (show (5 : Int32).toInt = 5 by decide); have z6 := lv_neT q17 (show (6 : Int32).toInt = 6 by decide); have z7 := lv_neT q18 (show (7 : Int32).toInt = 7 by decide); have z8 := lv_neT q19 (show (8 : Int32).toInt = 8 by decide); have z9 := lv_neT q20 (show (9 : Int32).toInt = 9 by decide); omega) (by decide) ?_
  refine m2_iconst hB dX11_count_127 (v := (-1)) (by decide) ?_
  exact m2_iret h dX11_count_128 k
theorem dX11_tell_0 : decode cX11_tell 0 = .ok (.aload_n 0, 1) := by decide +kernel
theorem dX11_tell_1 : decode cX11_tell 1 = .ok (.getfield 240, 3) := by decide +kernel
theorem dX11_tell_4 : decode cX11_tell 4 = .ok (.bipush 16, 2) := by decide +kernel
theorem dX11_tell_6 : decode cX11_tell 6 = .ok (.if_icmp .ge 23, 3) := by decide +kernel
theorem dX11_tell_9 : decode cX11_tell 9 = .ok (.aload_n 0, 1) := by decide +kernel
theorem dX11_tell_10 : decode cX11_tell 10 = .ok (.getfield 13, 3) := by decide +kernel
theorem dX11_tell_13 : decode cX11_tell 13 = .ok (.aload_n 0, 1) := by decide +kernel
theorem dX11_tell_14 : decode cX11_tell 14 = .ok (.getfield 240, 3) := by decide +kernel
theorem dX11_tell_17 : decode cX11_tell 17 = .ok (.lload_n 1, 1) := by decide +kernel
theorem dX11_tell_18 : decode cX11_tell 18 = .ok (.lastore, 1) := by decide +kernel
theorem dX11_tell_19 : decode cX11_tell 19 = .ok (.aload_n 0, 1) := by decide +kernel
theorem dX11_tell_20 : decode cX11_tell 20 = .ok (.dup, 1) := by decide +kernel
theorem dX11_tell_21 : decode cX11_tell 21 = .ok (.getfield 240, 3) := by decide +kernel
theorem dX11_tell_24 : decode cX11_tell 24 = .ok (.iconst 1, 1) := by decide +kernel
theorem dX11_tell_25 : decode cX11_tell 25 = .ok (.iadd, 1) := by decide +kernel
theorem dX11_tell_26 : decode cX11_tell 26 = .ok (.putfield 240, 3) := by decide +kernel
theorem dX11_tell_29 : decode cX11_tell 29 = .ok (.return_, 1) := by decide +kernel
set_option maxRecDepth 100000 in
set_option maxHeartbeats 4000000 in
theorem B_X11_tell_0 {κ : Nat → List Value → List Value → m2M → Prop} {D : Nat} {Q : Option Value → m2M → Prop} (h : m2_RL κ cX11_tell RX11 3 D none Q) {x1 : Int64} {μ : m2M} (k : (16 ≤ (μ.1 kC 3) → Q none μ) ∧ (¬ 16 ≤ (μ.1 kC 3) → (vp_in (μ.1 kC 3) 16) ∧ (Q none (m2_si (m2_sl μ kC_row (vp_updL ((μ).2 kC_row) ((μ.1 kC 3)).toNatClampNeg x1)) kC 3 ((μ.1 kC 3) + 1))))) : κ 0 [.ref kC, .long x1, .null] [] μ := by
  have hB := h.b
  refine m2_aload_n hB dX11_tell_0 rfl ?_
  refine m2_getI hB dX11_tell_1 fl_X11_240 sh_kC rfl ?_
  refine m2_bipush hB dX11_tell_4 (v := 16) (by decide) ?_
  refine m2_icmp_ge hB dX11_tell_6 (tgt := 29) (by decide) (fun q2 : 16 ≤ (μ.1 kC 3) => ?_) (fun q2 : ¬ 16 ≤ (μ.1 kC 3) => ?_)
  · replace k := k.1 q2
    exact m2_vret h dX11_tell_29 k
  · replace k := k.2 q2
    refine m2_aload_n hB dX11_tell_9 rfl ?_
    refine m2_getR hB dX11_tell_10 fl_X11_13 sh_kC (c1 := kC_row) rfl ?_
    refine m2_aload_n hB dX11_tell_13 rfl ?_
    refine m2_getI hB dX11_tell_14 fl_X11_240 sh_kC rfl ?_
    refine m2_lload_n hB dX11_tell_17 rfl ?_
    obtain ⟨hi3, k⟩ := k
    refine m2_last hB dX11_tell_18 sh_kC_row hi3 ?_
    refine m2_aload_n hB dX11_tell_19 rfl ?_
    refine m2_dup hB dX11_tell_20 rfl ?_
    refine m2_getI hB dX11_tell_21 fl_X11_240 sh_kC rfl ?_
    refine m2_iconst hB dX11_tell_24 (v := 1) (by decide) ?_
    refine m2_iadd hB dX11_tell_25 ?_
    refine m2_putI hB dX11_tell_26 fl_X11_240 sh_kC rfl ?_
    exact m2_vret h dX11_tell_29 k
theorem dX11_tellRoute_0 : decode cX11_tellRoute 0 = .ok (.iload_n 1, 1) := by decide +kernel
theorem dX11_tellRoute_1 : decode cX11_tellRoute 1 = .ok (.iconst (-1), 1) := by decide +kernel
theorem dX11_tellRoute_2 : decode cX11_tellRoute 2 = .ok (.if_icmp .ne 6, 3) := by decide +kernel
theorem dX11_tellRoute_5 : decode cX11_tellRoute 5 = .ok (.bipush (-2), 2) := by decide +kernel
theorem dX11_tellRoute_7 : decode cX11_tellRoute 7 = .ok (.ireturn, 1) := by decide +kernel
theorem dX11_tellRoute_8 : decode cX11_tellRoute 8 = .ok (.aload_n 0, 1) := by decide +kernel
theorem dX11_tellRoute_9 : decode cX11_tellRoute 9 = .ok (.iconst 0, 1) := by decide +kernel
theorem dX11_tellRoute_10 : decode cX11_tellRoute 10 = .ok (.putfield 240, 3) := by decide +kernel
theorem dX11_tellRoute_13 : decode cX11_tellRoute 13 = .ok (.iconst 0, 1) := by decide +kernel
theorem dX11_tellRoute_14 : decode cX11_tellRoute 14 = .ok (.istore_n 2, 1) := by decide +kernel
theorem dX11_tellRoute_15 : decode cX11_tellRoute 15 = .ok (.iload_n 2, 1) := by decide +kernel
theorem dX11_tellRoute_16 : decode cX11_tellRoute 16 = .ok (.iload_n 1, 1) := by decide +kernel
theorem dX11_tellRoute_17 : decode cX11_tellRoute 17 = .ok (.if_icmp .ge 23, 3) := by decide +kernel
theorem dX11_tellRoute_20 : decode cX11_tellRoute 20 = .ok (.aload_n 0, 1) := by decide +kernel
theorem dX11_tellRoute_21 : decode cX11_tellRoute 21 = .ok (.aload_n 0, 1) := by decide +kernel
theorem dX11_tellRoute_22 : decode cX11_tellRoute 22 = .ok (.getfield 73, 3) := by decide +kernel
theorem dX11_tellRoute_25 : decode cX11_tellRoute 25 = .ok (.getfield 421, 3) := by decide +kernel
theorem dX11_tellRoute_28 : decode cX11_tellRoute 28 = .ok (.iload_n 2, 1) := by decide +kernel
theorem dX11_tellRoute_29 : decode cX11_tellRoute 29 = .ok (.iaload, 1) := by decide +kernel
theorem dX11_tellRoute_30 : decode cX11_tellRoute 30 = .ok (.i2l, 1) := by decide +kernel
theorem dX11_tellRoute_31 : decode cX11_tellRoute 31 = .ok (.invokevirtual 269, 3) := by decide +kernel
theorem dX11_tellRoute_34 : decode cX11_tellRoute 34 = .ok (.iinc 2 1, 3) := by decide +kernel
theorem dX11_tellRoute_37 : decode cX11_tellRoute 37 = .ok (.goto (-22), 3) := by decide +kernel
theorem dX11_tellRoute_40 : decode cX11_tellRoute 40 = .ok (.iload_n 1, 1) := by decide +kernel
theorem dX11_tellRoute_41 : decode cX11_tellRoute 41 = .ok (.ireturn, 1) := by decide +kernel
set_option maxRecDepth 100000 in
set_option maxHeartbeats 4000000 in
theorem B_X11_tellRoute_0 {κ : Nat → List Value → List Value → m2M → Prop} {D : Nat} {Q : Option Value → m2M → Prop} (h : m2_RL κ cX11_tellRoute RX11 3 D (some .int) Q) {x1 : Int32} {μ : m2M} (k : (¬ x1 = (-1) → κ 15 [.ref kC, .int x1, .int 0] [] (m2_si μ kC 3 0)) ∧ (x1 = (-1) → Q (some (.int (-2))) μ)) : κ 0 [.ref kC, .int x1, .null] [] μ := by
  have hB := h.b
  refine m2_iload_n hB dX11_tellRoute_0 rfl ?_
  refine m2_iconst hB dX11_tellRoute_1 (v := (-1)) (by decide) ?_
  refine m2_icmp_ne hB dX11_tellRoute_2 (tgt := 8) (by decide) (fun q1 : ¬ x1 = (-1) => ?_) (fun q1 : x1 = (-1) => ?_)
  · replace k := k.1 q1
    refine m2_aload_n hB dX11_tellRoute_8 rfl ?_
    refine m2_iconst hB dX11_tellRoute_9 (v := 0) (by decide) ?_
    refine m2_putI hB dX11_tellRoute_10 fl_X11_240 sh_kC rfl ?_
    refine m2_iconst hB dX11_tellRoute_13 (v := 0) (by decide) ?_
    refine m2_istore_n hB (ls' := [.ref kC, .int x1, .int 0]) dX11_tellRoute_14 rfl (by decide) rfl ?_
    exact k
  · replace k := k.2 q1
    refine m2_bipush hB dX11_tellRoute_5 (v := (-2)) (by decide) ?_
    exact m2_iret h dX11_tellRoute_7 k
set_option maxRecDepth 100000 in
set_option maxHeartbeats 4000000 in
theorem B_X11_tellRoute_15 {κ : Nat → List Value → List Value → m2M → Prop} {D : Nat} {Q : Option Value → m2M → Prop} (h : m2_RL κ cX11_tellRoute RX11 3 (D + 1) (some .int) Q) {v1 : Int32} {v2 : Int32} {μ : m2M} (k : (v1 ≤ v2 → Q (some (.int v1)) μ) ∧ (¬ v1 ≤ v2 → (vp_in v2 12) ∧ (∃ Q6 : Option Value → m2M → Prop, m2_MT D yX11_tell cX11_tell 3 none [.ref kC, .long ((μ.1 kR_found (v2).toNatClampNeg)).toInt64] μ Q6 ∧ ∀ (μ5 : m2M), Q6 none μ5 → (κ 15 [.ref kC, .int v1, .int (v2 + 1)] [] μ5)))) : κ 15 [.ref kC, .int v1, .int v2] [] μ := by
  have hB := h.b
  refine m2_iload_n hB dX11_tellRoute_15 rfl ?_
  refine m2_iload_n hB dX11_tellRoute_16 rfl ?_
  refine m2_icmp_ge hB dX11_tellRoute_17 (tgt := 40) (by decide) (fun q2 : v1 ≤ v2 => ?_) (fun q2 : ¬ v1 ≤ v2 => ?_)
  · replace k := k.1 q2
    refine m2_iload_n hB dX11_tellRoute_40 rfl ?_
    exact m2_iret h dX11_tellRoute_41 k
  · replace k := k.2 q2
    refine m2_aload_n hB dX11_tellRoute_20 rfl ?_
    refine m2_aload_n hB dX11_tellRoute_21 rfl ?_
    refine m2_getR hB dX11_tellRoute_22 fl_X11_73 sh_kC (c1 := kR) rfl ?_
    refine m2_getR hB dX11_tellRoute_25 fl_X11_421 sh_kR (c1 := kR_found) rfl ?_
    refine m2_iload_n hB dX11_tellRoute_28 rfl ?_
    obtain ⟨hi3, k⟩ := k
    refine m2_iald hB dX11_tellRoute_29 sh_kR_found hi3 ?_
    refine m2_i2l hB dX11_tellRoute_30 ?_
    obtain ⟨Q6, hM7, k⟩ := k
    refine m2_invv hB (as := [.long ((μ.1 kR_found (v2).toNatClampNeg)).toInt64]) dX11_tellRoute_31 mv_X11_269 rfl sh_kC rfl (Nat.le_of_ble_eq_true rfl) rfl hM7 (fun μ5 hq8 => ?_)
    replace k := k μ5 hq8
    refine m2_iinc hB (ls' := [.ref kC, .int v1, .int (v2 + 1)]) (v := (v2 + 1)) dX11_tellRoute_34 rfl (by decide) rfl rfl ?_
    refine m2_goto hB dX11_tellRoute_37 (tgt := 15) (by decide) ?_
    exact k
theorem dX11_tellRescued_0 : decode cX11_tellRescued 0 = .ok (.aload_n 0, 1) := by decide +kernel
theorem dX11_tellRescued_1 : decode cX11_tellRescued 1 = .ok (.getfield 80, 3) := by decide +kernel
theorem dX11_tellRescued_4 : decode cX11_tellRescued 4 = .ok (.aload_n 0, 1) := by decide +kernel
theorem dX11_tellRescued_5 : decode cX11_tellRescued 5 = .ok (.getfield 39, 3) := by decide +kernel
theorem dX11_tellRescued_8 : decode cX11_tellRescued 8 = .ok (.invokevirtual 291, 3) := by decide +kernel
theorem dX11_tellRescued_11 : decode cX11_tellRescued 11 = .ok (.iconst 0, 1) := by decide +kernel
theorem dX11_tellRescued_12 : decode cX11_tellRescued 12 = .ok (.istore_n 2, 1) := by decide +kernel
theorem dX11_tellRescued_13 : decode cX11_tellRescued 13 = .ok (.iconst 0, 1) := by decide +kernel
theorem dX11_tellRescued_14 : decode cX11_tellRescued 14 = .ok (.istore_n 3, 1) := by decide +kernel
theorem dX11_tellRescued_15 : decode cX11_tellRescued 15 = .ok (.iload_n 3, 1) := by decide +kernel
theorem dX11_tellRescued_16 : decode cX11_tellRescued 16 = .ok (.aload_n 0, 1) := by decide +kernel
theorem dX11_tellRescued_17 : decode cX11_tellRescued 17 = .ok (.getfield 46, 3) := by decide +kernel
theorem dX11_tellRescued_20 : decode cX11_tellRescued 20 = .ok (.getfield 353, 3) := by decide +kernel
theorem dX11_tellRescued_23 : decode cX11_tellRescued 23 = .ok (.if_icmp .ge 35, 3) := by decide +kernel
theorem dX11_tellRescued_26 : decode cX11_tellRescued 26 = .ok (.aload_n 0, 1) := by decide +kernel
theorem dX11_tellRescued_27 : decode cX11_tellRescued 27 = .ok (.getfield 80, 3) := by decide +kernel
theorem dX11_tellRescued_30 : decode cX11_tellRescued 30 = .ok (.aload_n 0, 1) := by decide +kernel
theorem dX11_tellRescued_31 : decode cX11_tellRescued 31 = .ok (.getfield 46, 3) := by decide +kernel
theorem dX11_tellRescued_34 : decode cX11_tellRescued 34 = .ok (.getfield 167, 3) := by decide +kernel
theorem dX11_tellRescued_37 : decode cX11_tellRescued 37 = .ok (.iload_n 3, 1) := by decide +kernel
theorem dX11_tellRescued_38 : decode cX11_tellRescued 38 = .ok (.iaload, 1) := by decide +kernel
theorem dX11_tellRescued_39 : decode cX11_tellRescued 39 = .ok (.iload_n 1, 1) := by decide +kernel
theorem dX11_tellRescued_40 : decode cX11_tellRescued 40 = .ok (.invokevirtual 424, 3) := by decide +kernel
theorem dX11_tellRescued_43 : decode cX11_tellRescued 43 = .ok (.ifCond .eq 9, 3) := by decide +kernel
theorem dX11_tellRescued_46 : decode cX11_tellRescued 46 = .ok (.iload_n 2, 1) := by decide +kernel
theorem dX11_tellRescued_47 : decode cX11_tellRescued 47 = .ok (.iconst 1, 1) := by decide +kernel
theorem dX11_tellRescued_48 : decode cX11_tellRescued 48 = .ok (.iload_n 3, 1) := by decide +kernel
theorem dX11_tellRescued_49 : decode cX11_tellRescued 49 = .ok (.ishl, 1) := by decide +kernel
theorem dX11_tellRescued_50 : decode cX11_tellRescued 50 = .ok (.ior, 1) := by decide +kernel
theorem dX11_tellRescued_51 : decode cX11_tellRescued 51 = .ok (.istore_n 2, 1) := by decide +kernel
theorem dX11_tellRescued_52 : decode cX11_tellRescued 52 = .ok (.iinc 3 1, 3) := by decide +kernel
theorem dX11_tellRescued_55 : decode cX11_tellRescued 55 = .ok (.goto (-40), 3) := by decide +kernel
theorem dX11_tellRescued_58 : decode cX11_tellRescued 58 = .ok (.aload_n 0, 1) := by decide +kernel
theorem dX11_tellRescued_59 : decode cX11_tellRescued 59 = .ok (.iconst 0, 1) := by decide +kernel
theorem dX11_tellRescued_60 : decode cX11_tellRescued 60 = .ok (.putfield 240, 3) := by decide +kernel
theorem dX11_tellRescued_63 : decode cX11_tellRescued 63 = .ok (.aload_n 0, 1) := by decide +kernel
theorem dX11_tellRescued_64 : decode cX11_tellRescued 64 = .ok (.iload_n 2, 1) := by decide +kernel
theorem dX11_tellRescued_65 : decode cX11_tellRescued 65 = .ok (.i2l, 1) := by decide +kernel
theorem dX11_tellRescued_66 : decode cX11_tellRescued 66 = .ok (.invokevirtual 269, 3) := by decide +kernel
theorem dX11_tellRescued_69 : decode cX11_tellRescued 69 = .ok (.iload_n 2, 1) := by decide +kernel
theorem dX11_tellRescued_70 : decode cX11_tellRescued 70 = .ok (.invokestatic 335, 3) := by decide +kernel
theorem dX11_tellRescued_73 : decode cX11_tellRescued 73 = .ok (.ireturn, 1) := by decide +kernel
set_option maxRecDepth 100000 in
set_option maxHeartbeats 4000000 in
theorem B_X11_tellRescued_0 {κ : Nat → List Value → List Value → m2M → Prop} {D : Nat} {Q : Option Value → m2M → Prop} (h : m2_RL κ cX11_tellRescued RX11 4 (D + 1) (some .int) Q) {x1 : Int32} {μ : m2M} (k : ∃ Q3 : Option Value → m2M → Prop, m2_MT D yX1_load cX1_load 3 none [.ref kF, .ref kD] μ Q3 ∧ ∀ (μ2 : m2M), Q3 none μ2 → (κ 15 [.ref kC, .int x1, .int 0, .int 0] [] μ2)) : κ 0 [.ref kC, .int x1, .null, .null] [] μ := by
  have hB := h.b
  refine m2_aload_n hB dX11_tellRescued_0 rfl ?_
  refine m2_getR hB dX11_tellRescued_1 fl_X11_80 sh_kC (c1 := kF) rfl ?_
  refine m2_aload_n hB dX11_tellRescued_4 rfl ?_
  refine m2_getR hB dX11_tellRescued_5 fl_X11_39 sh_kC (c1 := kD) rfl ?_
  obtain ⟨Q3, hM4, k⟩ := k
  refine m2_invv hB (as := [.ref kD]) dX11_tellRescued_8 mv_X11_291 rfl sh_kF rfl (Nat.le_of_ble_eq_true rfl) rfl hM4 (fun μ2 hq5 => ?_)
  replace k := k μ2 hq5
  refine m2_iconst hB dX11_tellRescued_11 (v := 0) (by decide) ?_
  refine m2_istore_n hB (ls' := [.ref kC, .int x1, .int 0, .null]) dX11_tellRescued_12 rfl (by decide) rfl ?_
  refine m2_iconst hB dX11_tellRescued_13 (v := 0) (by decide) ?_
  refine m2_istore_n hB (ls' := [.ref kC, .int x1, .int 0, .int 0]) dX11_tellRescued_14 rfl (by decide) rfl ?_
  exact k
set_option maxRecDepth 100000 in
set_option maxHeartbeats 4000000 in
theorem B_X11_tellRescued_15 {κ : Nat → List Value → List Value → m2M → Prop} {D : Nat} {Q : Option Value → m2M → Prop} (h : m2_RL κ cX11_tellRescued RX11 4 (D + 1) (some .int) Q) (hD : 0 ≤ D) {v1 : Int32} {v2 : Int32} {v3 : Int32} {μ : m2M} (k : ((μ.1 kP 8) ≤ v3 → ∃ Q5 : Option Value → m2M → Prop, m2_MT D yX11_tell cX11_tell 3 none [.ref kC, .long (v2).toInt64] (m2_si μ kC 3 0) Q5 ∧ ∀ (μ4 : m2M), Q5 none μ4 → (Q (some (.int (fJ6_bitCount_0f7a4 v2))) μ4)) ∧ (¬ (μ.1 kP 8) ≤ v3 → (vp_in v3 8) ∧ (∃ Q14 : Option Value → m2M → Prop, m2_MT D yX1_sendOne cX1_sendOne 4 (some .boolean) [.ref kF, .int (μ.1 kP_where (v3).toNatClampNeg), .int v1] μ Q14 ∧ ∀ (y12 : Int32) (μ13 : m2M), Q14 (some (.int y12)) μ13 → (κ 15 [.ref kC, .int v1, .int (if y12 = 0 then v2 else (v2 ||| ((1 : Int32) <<< (v3 &&& 31))) : Int32), .int (v3 + 1)] [] μ13)))) : κ 15 [.ref kC, .int v1, .int v2, .int v3] [] μ := by
  have hB := h.b
  refine m2_iload_n hB dX11_tellRescued_15 rfl ?_
  refine m2_aload_n hB dX11_tellRescued_16 rfl ?_
  refine m2_getR hB dX11_tellRescued_17 fl_X11_46 sh_kC (c1 := kP) rfl ?_
  refine m2_getI hB dX11_tellRescued_20 fl_X11_353 sh_kP rfl ?_
  refine m2_icmp_ge hB dX11_tellRescued_23 (tgt := 58) (by decide) (fun q2 : (μ.1 kP 8) ≤ v3 => ?_) (fun q2 : ¬ (μ.1 kP 8) ≤ v3 => ?_)
  · replace k := k.1 q2
    refine m2_aload_n hB dX11_tellRescued_58 rfl ?_
    refine m2_iconst hB dX11_tellRescued_59 (v := 0) (by decide) ?_
    refine m2_putI hB dX11_tellRescued_60 fl_X11_240 sh_kC rfl ?_
    refine m2_aload_n hB dX11_tellRescued_63 rfl ?_
    refine m2_iload_n hB dX11_tellRescued_64 rfl ?_
    refine m2_i2l hB dX11_tellRescued_65 ?_
    obtain ⟨Q5, hM6, k⟩ := k
    refine m2_invv hB (as := [.long (v2).toInt64]) dX11_tellRescued_66 mv_X11_269 rfl sh_kC rfl (Nat.le_of_ble_eq_true rfl) rfl hM6 (fun μ4 hq7 => ?_)
    replace k := k μ4 hq7
    refine m2_iload_n hB dX11_tellRescued_69 rfl ?_
    refine m2_invSi hB (as := [.int v2]) dX11_tellRescued_70 ms_X11_335 rfl (Nat.le_of_ble_eq_true rfl) rfl (P_J6_bitCount_0f7a4 (by omega) (v2) _ ) (fun y8 μ9 hq10 => ?_)
    obtain ⟨⟨⟩, hq10⟩ := hq10
    subst μ9
    exact m2_iret h dX11_tellRescued_73 k
  · replace k := k.2 q2
    refine m2_aload_n hB dX11_tellRescued_26 rfl ?_
    refine m2_getR hB dX11_tellRescued_27 fl_X11_80 sh_kC (c1 := kF) rfl ?_
    refine m2_aload_n hB dX11_tellRescued_30 rfl ?_
    refine m2_getR hB dX11_tellRescued_31 fl_X11_46 sh_kC (c1 := kP) rfl ?_
    refine m2_getR hB dX11_tellRescued_34 fl_X11_167 sh_kP (c1 := kP_where) rfl ?_
    refine m2_iload_n hB dX11_tellRescued_37 rfl ?_
    obtain ⟨hi11, k⟩ := k
    refine m2_iald hB dX11_tellRescued_38 sh_kP_where hi11 ?_
    refine m2_iload_n hB dX11_tellRescued_39 rfl ?_
    obtain ⟨Q14, hM15, k⟩ := k
    refine m2_invz hB (as := [.int (μ.1 kP_where (v3).toNatClampNeg), .int v1]) dX11_tellRescued_40 mv_X11_424 rfl sh_kF rfl (Nat.le_of_ble_eq_true rfl) rfl hM15 (fun y12 μ13 hq16 => ?_)
    replace k := k y12 μ13 hq16
    have G18 : κ 52 [.ref kC, .int v1, .int (if y12 = 0 then v2 else (v2 ||| ((1 : Int32) <<< (v3 &&& 31))) : Int32), .int v3] [] μ13 := by
      refine m2_iinc hB (ls' := [.ref kC, .int v1, .int (if y12 = 0 then v2 else (v2 ||| ((1 : Int32) <<< (v3 &&& 31))) : Int32), .int (v3 + 1)]) (v := (v3 + 1)) dX11_tellRescued_52 rfl (by decide) rfl rfl ?_
      refine m2_goto hB dX11_tellRescued_55 (tgt := 15) (by decide) ?_
      exact k
    refine m2_if_eq hB dX11_tellRescued_43 (tgt := 52) (by decide) (fun q17 : y12 = 0 => ?_) (fun q17 : ¬ y12 = 0 => ?_)
    · rw [if_pos q17] at G18
      exact G18
    · rw [if_neg q17] at G18
      refine m2_iload_n hB dX11_tellRescued_46 rfl ?_
      refine m2_iconst hB dX11_tellRescued_47 (v := 1) (by decide) ?_
      refine m2_iload_n hB dX11_tellRescued_48 rfl ?_
      refine m2_ishl hB dX11_tellRescued_49 ?_
      refine m2_ior hB dX11_tellRescued_50 ?_
      refine m2_istore_n hB (ls' := [.ref kC, .int v1, .int (v2 ||| ((1 : Int32) <<< (v3 &&& 31))), .int v3]) dX11_tellRescued_51 rfl (by decide) rfl ?_
      exact G18
theorem dX11_tellDay_0 : decode cX11_tellDay 0 = .ok (.aload_n 0, 1) := by decide +kernel
theorem dX11_tellDay_1 : decode cX11_tellDay 1 = .ok (.iconst 0, 1) := by decide +kernel
theorem dX11_tellDay_2 : decode cX11_tellDay 2 = .ok (.putfield 240, 3) := by decide +kernel
theorem dX11_tellDay_5 : decode cX11_tellDay 5 = .ok (.aload_n 0, 1) := by decide +kernel
theorem dX11_tellDay_6 : decode cX11_tellDay 6 = .ok (.aload_n 0, 1) := by decide +kernel
theorem dX11_tellDay_7 : decode cX11_tellDay 7 = .ok (.getfield 46, 3) := by decide +kernel
theorem dX11_tellDay_10 : decode cX11_tellDay 10 = .ok (.invokevirtual 329, 3) := by decide +kernel
theorem dX11_tellDay_13 : decode cX11_tellDay 13 = .ok (.i2l, 1) := by decide +kernel
theorem dX11_tellDay_14 : decode cX11_tellDay 14 = .ok (.invokevirtual 269, 3) := by decide +kernel
theorem dX11_tellDay_17 : decode cX11_tellDay 17 = .ok (.aload_n 0, 1) := by decide +kernel
theorem dX11_tellDay_18 : decode cX11_tellDay 18 = .ok (.aload_n 0, 1) := by decide +kernel
theorem dX11_tellDay_19 : decode cX11_tellDay 19 = .ok (.getfield 89, 3) := by decide +kernel
theorem dX11_tellDay_22 : decode cX11_tellDay 22 = .ok (.getfield 273, 3) := by decide +kernel
theorem dX11_tellDay_25 : decode cX11_tellDay 25 = .ok (.i2l, 1) := by decide +kernel
theorem dX11_tellDay_26 : decode cX11_tellDay 26 = .ok (.invokevirtual 269, 3) := by decide +kernel
theorem dX11_tellDay_29 : decode cX11_tellDay 29 = .ok (.aload_n 0, 1) := by decide +kernel
theorem dX11_tellDay_30 : decode cX11_tellDay 30 = .ok (.aload_n 0, 1) := by decide +kernel
theorem dX11_tellDay_31 : decode cX11_tellDay 31 = .ok (.getfield 46, 3) := by decide +kernel
theorem dX11_tellDay_34 : decode cX11_tellDay 34 = .ok (.invokevirtual 332, 3) := by decide +kernel
theorem dX11_tellDay_37 : decode cX11_tellDay 37 = .ok (.i2l, 1) := by decide +kernel
theorem dX11_tellDay_38 : decode cX11_tellDay 38 = .ok (.invokevirtual 269, 3) := by decide +kernel
theorem dX11_tellDay_41 : decode cX11_tellDay 41 = .ok (.aload_n 0, 1) := by decide +kernel
theorem dX11_tellDay_42 : decode cX11_tellDay 42 = .ok (.getfield 46, 3) := by decide +kernel
theorem dX11_tellDay_45 : decode cX11_tellDay 45 = .ok (.invokevirtual 416, 3) := by decide +kernel
theorem dX11_tellDay_48 : decode cX11_tellDay 48 = .ok (.invokestatic 335, 3) := by decide +kernel
theorem dX11_tellDay_51 : decode cX11_tellDay 51 = .ok (.ireturn, 1) := by decide +kernel
set_option maxRecDepth 100000 in
set_option maxHeartbeats 4000000 in
theorem B_X11_tellDay_0 {κ : Nat → List Value → List Value → m2M → Prop} {D : Nat} {Q : Option Value → m2M → Prop} (h : m2_RL κ cX11_tellDay RX11 1 (D + 1) (some .int) Q) (hD : 0 ≤ D)  {μ : m2M} (k : ∃ Q3 : Option Value → m2M → Prop, m2_MT D yX6_worthDone cX6_worthDone 3 (some .int) [.ref kP] (m2_si μ kC 3 0) Q3 ∧ ∀ (y1 : Int32) (μ2 : m2M), Q3 (some (.int y1)) μ2 → (∃ Q8 : Option Value → m2M → Prop, m2_MT D yX11_tell cX11_tell 3 none [.ref kC, .long (y1).toInt64] μ2 Q8 ∧ ∀ (μ7 : m2M), Q8 none μ7 → (∃ Q13 : Option Value → m2M → Prop, m2_MT D yX11_tell cX11_tell 3 none [.ref kC, .long ((μ7.1 kW 7)).toInt64] μ7 Q13 ∧ ∀ (μ12 : m2M), Q13 none μ12 → (∃ Q18 : Option Value → m2M → Prop, m2_MT D yX6_busyBits cX6_busyBits 3 (some .int) [.ref kP] μ12 Q18 ∧ ∀ (y16 : Int32) (μ17 : m2M), Q18 (some (.int y16)) μ17 → (∃ Q23 : Option Value → m2M → Prop, m2_MT D yX11_tell cX11_tell 3 none [.ref kC, .long (y16).toInt64] μ17 Q23 ∧ ∀ (μ22 : m2M), Q23 none μ22 → (∃ Q28 : Option Value → m2M → Prop, m2_MT D yX6_doneBits cX6_doneBits 3 (some .int) [.ref kP] μ22 Q28 ∧ ∀ (y26 : Int32) (μ27 : m2M), Q28 (some (.int y26)) μ27 → (Q (some (.int (fJ6_bitCount_0f7a4 y26))) μ27))))))) : κ 0 [.ref kC] [] μ := by
  have hB := h.b
  refine m2_aload_n hB dX11_tellDay_0 rfl ?_
  refine m2_iconst hB dX11_tellDay_1 (v := 0) (by decide) ?_
  refine m2_putI hB dX11_tellDay_2 fl_X11_240 sh_kC rfl ?_
  refine m2_aload_n hB dX11_tellDay_5 rfl ?_
  refine m2_aload_n hB dX11_tellDay_6 rfl ?_
  refine m2_getR hB dX11_tellDay_7 fl_X11_46 sh_kC (c1 := kP) rfl ?_
  obtain ⟨Q3, hM4, k⟩ := k
  refine m2_invi hB (as := []) dX11_tellDay_10 mv_X11_329 rfl sh_kP rfl (Nat.le_of_ble_eq_true rfl) rfl hM4 (fun y1 μ2 hq5 => ?_)
  replace k := k y1 μ2 hq5
  refine m2_i2l hB dX11_tellDay_13 ?_
  obtain ⟨Q8, hM9, k⟩ := k
  refine m2_invv hB (as := [.long (y1).toInt64]) dX11_tellDay_14 mv_X11_269 rfl sh_kC rfl (Nat.le_of_ble_eq_true rfl) rfl hM9 (fun μ7 hq10 => ?_)
  replace k := k μ7 hq10
  refine m2_aload_n hB dX11_tellDay_17 rfl ?_
  refine m2_aload_n hB dX11_tellDay_18 rfl ?_
  refine m2_getR hB dX11_tellDay_19 fl_X11_89 sh_kC (c1 := kW) rfl ?_
  refine m2_getI hB dX11_tellDay_22 fl_X11_273 sh_kW rfl ?_
  refine m2_i2l hB dX11_tellDay_25 ?_
  obtain ⟨Q13, hM14, k⟩ := k
  refine m2_invv hB (as := [.long ((μ7.1 kW 7)).toInt64]) dX11_tellDay_26 mv_X11_269 rfl sh_kC rfl (Nat.le_of_ble_eq_true rfl) rfl hM14 (fun μ12 hq15 => ?_)
  replace k := k μ12 hq15
  refine m2_aload_n hB dX11_tellDay_29 rfl ?_
  refine m2_aload_n hB dX11_tellDay_30 rfl ?_
  refine m2_getR hB dX11_tellDay_31 fl_X11_46 sh_kC (c1 := kP) rfl ?_
  obtain ⟨Q18, hM19, k⟩ := k
  refine m2_invi hB (as := []) dX11_tellDay_34 mv_X11_332 rfl sh_kP rfl (Nat.le_of_ble_eq_true rfl) rfl hM19 (fun y16 μ17 hq20 => ?_)
  replace k := k y16 μ17 hq20
  refine m2_i2l hB dX11_tellDay_37 ?_
  obtain ⟨Q23, hM24, k⟩ := k
  refine m2_invv hB (as := [.long (y16).toInt64]) dX11_tellDay_38 mv_X11_269 rfl sh_kC rfl (Nat.le_of_ble_eq_true rfl) rfl hM24 (fun μ22 hq25 => ?_)
  replace k := k μ22 hq25
  refine m2_aload_n hB dX11_tellDay_41 rfl ?_
  refine m2_getR hB dX11_tellDay_42 fl_X11_46 sh_kC (c1 := kP) rfl ?_
  obtain ⟨Q28, hM29, k⟩ := k
  refine m2_invi hB (as := []) dX11_tellDay_45 mv_X11_416 rfl sh_kP rfl (Nat.le_of_ble_eq_true rfl) rfl hM29 (fun y26 μ27 hq30 => ?_)
  replace k := k y26 μ27 hq30
  refine m2_invSi hB (as := [.int y26]) dX11_tellDay_48 ms_X11_335 rfl (Nat.le_of_ble_eq_true rfl) rfl (P_J6_bitCount_0f7a4 (by omega) (y26) _ ) (fun y31 μ32 hq33 => ?_)
  obtain ⟨⟨⟩, hq33⟩ := hq33
  subst μ32
  exact m2_iret h dX11_tellDay_51 k
