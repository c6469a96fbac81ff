theorem dX12_lost_0 : decode cX12_lost 0 = .ok (.aload_n 0, 1) := by decide +kernel
theorem dX12_lost_1 : decode cX12_lost 1 = .ok (.iconst 1, 1) := by decide +kernel
theorem dX12_lost_2 : decode cX12_lost 2 = .ok (.putfield 143, 3) := by decide +kernel
theorem dX12_lost_5 : decode cX12_lost 5 = .ok (.iconst 0, 1) := by decide +kernel
theorem dX12_lost_6 : decode cX12_lost 6 = .ok (.ireturn, 1) := by decide +kernel
set_option maxRecDepth 100000 in
set_option maxHeartbeats 4000000 in
theorem B_X12_lost_0 {κ : Nat → List Value → List Value → m2M → Prop} {D : Nat} {Q : Option Value → m2M → Prop} (h : m2_RL κ cX12_lost RX12 1 D (some .int) Q)  {μ : m2M} (k : Q (some (.int 0)) (m2_si μ kM 22 1)) : κ 0 [.ref kM] [] μ := by
  have hB := h.b
  refine m2_aload_n hB dX12_lost_0 rfl ?_
  refine m2_iconst hB dX12_lost_1 (v := 1) (by decide) ?_
  refine m2_putI hB dX12_lost_2 fl_X12_143 sh_kM rfl ?_
  refine m2_iconst hB dX12_lost_5 (v := 0) (by decide) ?_
  exact m2_iret h dX12_lost_6 k
theorem dX12_tell_0 : decode cX12_tell 0 = .ok (.aload_n 0, 1) := by decide +kernel
theorem dX12_tell_1 : decode cX12_tell 1 = .ok (.getfield 61, 3) := by decide +kernel
theorem dX12_tell_4 : decode cX12_tell 4 = .ok (.aload_n 0, 1) := by decide +kernel
theorem dX12_tell_5 : decode cX12_tell 5 = .ok (.getfield 146, 3) := by decide +kernel
theorem dX12_tell_8 : decode cX12_tell 8 = .ok (.lload_n 1, 1) := by decide +kernel
theorem dX12_tell_9 : decode cX12_tell 9 = .ok (.lastore, 1) := by decide +kernel
theorem dX12_tell_10 : decode cX12_tell 10 = .ok (.aload_n 0, 1) := by decide +kernel
theorem dX12_tell_11 : decode cX12_tell 11 = .ok (.dup, 1) := by decide +kernel
theorem dX12_tell_12 : decode cX12_tell 12 = .ok (.getfield 146, 3) := by decide +kernel
theorem dX12_tell_15 : decode cX12_tell 15 = .ok (.iconst 1, 1) := by decide +kernel
theorem dX12_tell_16 : decode cX12_tell 16 = .ok (.iadd, 1) := by decide +kernel
theorem dX12_tell_17 : decode cX12_tell 17 = .ok (.putfield 146, 3) := by decide +kernel
theorem dX12_tell_20 : decode cX12_tell 20 = .ok (.return_, 1) := by decide +kernel
set_option maxRecDepth 100000 in
set_option maxHeartbeats 4000000 in
theorem B_X12_tell_0 {κ : Nat → List Value → List Value → m2M → Prop} {D : Nat} {Q : Option Value → m2M → Prop} (h : m2_RL κ cX12_tell RX12 3 D none Q) {x1 : Int64} {μ : m2M} (k : (vp_in (μ.1 kM 21) 40) ∧ (Q none (m2_si (m2_sl μ kM_row (vp_updL ((μ).2 kM_row) ((μ.1 kM 21)).toNatClampNeg x1)) kM 21 ((μ.1 kM 21) + 1)))) : κ 0 [.ref kM, .long x1, .null] [] μ := by
  have hB := h.b
  refine m2_aload_n hB dX12_tell_0 rfl ?_
  refine m2_getR hB dX12_tell_1 fl_X12_61 sh_kM (c1 := kM_row) rfl ?_
  refine m2_aload_n hB dX12_tell_4 rfl ?_
  refine m2_getI hB dX12_tell_5 fl_X12_146 sh_kM rfl ?_
  refine m2_lload_n hB dX12_tell_8 rfl ?_
  obtain ⟨hi1, k⟩ := k
  refine m2_last hB dX12_tell_9 sh_kM_row hi1 ?_
  refine m2_aload_n hB dX12_tell_10 rfl ?_
  refine m2_dup hB dX12_tell_11 rfl ?_
  refine m2_getI hB dX12_tell_12 fl_X12_146 sh_kM rfl ?_
  refine m2_iconst hB dX12_tell_15 (v := 1) (by decide) ?_
  refine m2_iadd hB dX12_tell_16 ?_
  refine m2_putI hB dX12_tell_17 fl_X12_146 sh_kM rfl ?_
  exact m2_vret h dX12_tell_20 k
theorem dX12_sign_0 : decode cX12_sign 0 = .ok (.aload_n 0, 1) := by decide +kernel
theorem dX12_sign_1 : decode cX12_sign 1 = .ok (.iconst 0, 1) := by decide +kernel
theorem dX12_sign_2 : decode cX12_sign 2 = .ok (.putfield 143, 3) := by decide +kernel
theorem dX12_sign_5 : decode cX12_sign 5 = .ok (.aload_n 0, 1) := by decide +kernel
theorem dX12_sign_6 : decode cX12_sign 6 = .ok (.getfield 159, 3) := by decide +kernel
theorem dX12_sign_9 : decode cX12_sign 9 = .ok (.iconst 4, 1) := by decide +kernel
theorem dX12_sign_10 : decode cX12_sign 10 = .ok (.iadd, 1) := by decide +kernel
theorem dX12_sign_11 : decode cX12_sign 11 = .ok (.bipush 80, 2) := by decide +kernel
theorem dX12_sign_13 : decode cX12_sign 13 = .ok (.if_icmp .le 5, 3) := by decide +kernel
theorem dX12_sign_16 : decode cX12_sign 16 = .ok (.iconst (-1), 1) := by decide +kernel
theorem dX12_sign_17 : decode cX12_sign 17 = .ok (.ireturn, 1) := by decide +kernel
theorem dX12_sign_18 : decode cX12_sign 18 = .ok (.iconst 3, 1) := by decide +kernel
theorem dX12_sign_19 : decode cX12_sign 19 = .ok (.istore_n 2, 1) := by decide +kernel
theorem dX12_sign_20 : decode cX12_sign 20 = .ok (.iload_n 2, 1) := by decide +kernel
theorem dX12_sign_21 : decode cX12_sign 21 = .ok (.ifCond .lt 32, 3) := by decide +kernel
theorem dX12_sign_24 : decode cX12_sign 24 = .ok (.aload_n 0, 1) := by decide +kernel
theorem dX12_sign_25 : decode cX12_sign 25 = .ok (.getfield 57, 3) := by decide +kernel
theorem dX12_sign_28 : decode cX12_sign 28 = .ok (.aload_n 0, 1) := by decide +kernel
theorem dX12_sign_29 : decode cX12_sign 29 = .ok (.dup, 1) := by decide +kernel
theorem dX12_sign_30 : decode cX12_sign 30 = .ok (.getfield 159, 3) := by decide +kernel
theorem dX12_sign_33 : decode cX12_sign 33 = .ok (.dup_x1, 1) := by decide +kernel
theorem dX12_sign_34 : decode cX12_sign 34 = .ok (.iconst 1, 1) := by decide +kernel
theorem dX12_sign_35 : decode cX12_sign 35 = .ok (.iadd, 1) := by decide +kernel
theorem dX12_sign_36 : decode cX12_sign 36 = .ok (.putfield 159, 3) := by decide +kernel
theorem dX12_sign_39 : decode cX12_sign 39 = .ok (.iload_n 1, 1) := by decide +kernel
theorem dX12_sign_40 : decode cX12_sign 40 = .ok (.bipush 8, 2) := by decide +kernel
theorem dX12_sign_42 : decode cX12_sign 42 = .ok (.iload_n 2, 1) := by decide +kernel
theorem dX12_sign_43 : decode cX12_sign 43 = .ok (.imul, 1) := by decide +kernel
theorem dX12_sign_44 : decode cX12_sign 44 = .ok (.ishr, 1) := by decide +kernel
theorem dX12_sign_45 : decode cX12_sign 45 = .ok (.i2b, 1) := by decide +kernel
theorem dX12_sign_46 : decode cX12_sign 46 = .ok (.bastore, 1) := by decide +kernel
theorem dX12_sign_47 : decode cX12_sign 47 = .ok (.iinc 2 (-1), 3) := by decide +kernel
theorem dX12_sign_50 : decode cX12_sign 50 = .ok (.goto (-30), 3) := by decide +kernel
theorem dX12_sign_53 : decode cX12_sign 53 = .ok (.aload_n 0, 1) := by decide +kernel
theorem dX12_sign_54 : decode cX12_sign 54 = .ok (.getfield 159, 3) := by decide +kernel
theorem dX12_sign_57 : decode cX12_sign 57 = .ok (.ireturn, 1) := by decide +kernel
set_option maxRecDepth 100000 in
set_option maxHeartbeats 4000000 in
theorem B_X12_sign_0 {κ : Nat → List Value → List Value → m2M → Prop} {D : Nat} {Q : Option Value → m2M → Prop} (h : m2_RL κ cX12_sign RX12 3 D (some .int) Q) {x1 : Int32} {μ : m2M} (k : (((μ.1 kM 19) + 4) ≤ 80 → κ 20 [.ref kM, .int x1, .int 3] [] (m2_si μ kM 22 0)) ∧ (¬ ((μ.1 kM 19) + 4) ≤ 80 → Q (some (.int (-1))) (m2_si μ kM 22 0))) : κ 0 [.ref kM, .int x1, .null] [] μ := by
  have hB := h.b
  refine m2_aload_n hB dX12_sign_0 rfl ?_
  refine m2_iconst hB dX12_sign_1 (v := 0) (by decide) ?_
  refine m2_putI hB dX12_sign_2 fl_X12_143 sh_kM rfl ?_
  refine m2_aload_n hB dX12_sign_5 rfl ?_
  refine m2_getI hB dX12_sign_6 fl_X12_159 sh_kM rfl ?_
  refine m2_iconst hB dX12_sign_9 (v := 4) (by decide) ?_
  refine m2_iadd hB dX12_sign_10 ?_
  refine m2_bipush hB dX12_sign_11 (v := 80) (by decide) ?_
  refine m2_icmp_le hB dX12_sign_13 (tgt := 18) (by decide) (fun q1 : ((μ.1 kM 19) + 4) ≤ 80 => ?_) (fun q1 : ¬ ((μ.1 kM 19) + 4) ≤ 80 => ?_)
  · replace k := k.1 q1
    refine m2_iconst hB dX12_sign_18 (v := 3) (by decide) ?_
    refine m2_istore_n hB (ls' := [.ref kM, .int x1, .int 3]) dX12_sign_19 rfl (by decide) rfl ?_
    exact k
  · replace k := k.2 q1
    refine m2_iconst hB dX12_sign_16 (v := (-1)) (by decide) ?_
    exact m2_iret h dX12_sign_17 k
set_option maxRecDepth 100000 in
set_option maxHeartbeats 4000000 in
theorem B_X12_sign_20 {κ : Nat → List Value → List Value → m2M → Prop} {D : Nat} {Q : Option Value → m2M → Prop} (h : m2_RL κ cX12_sign RX12 3 D (some .int) Q) {v1 : Int32} {v2 : Int32} {μ : m2M} (k : (v2 < 0 → Q (some (.int (μ.1 kM 19))) μ) ∧ (¬ v2 < 0 → (vp_in (μ.1 kM 19) 80) ∧ (κ 20 [.ref kM, .int v1, .int (v2 + (-1))] [] (m2_si (m2_si μ kM 19 ((μ.1 kM 19) + 1)) kM_text ((μ.1 kM 19)).toNatClampNeg (vp_nar .byte ((v1 >>> (((8 : Int32) * v2) &&& 31))).toInt8.toInt32))))) : κ 20 [.ref kM, .int v1, .int v2] [] μ := by
  have hB := h.b
  refine m2_iload_n hB dX12_sign_20 rfl ?_
  refine m2_if_lt hB dX12_sign_21 (tgt := 53) (by decide) (fun q1 : v2 < 0 => ?_) (fun q1 : ¬ v2 < 0 => ?_)
  · replace k := k.1 q1
    refine m2_aload_n hB dX12_sign_53 rfl ?_
    refine m2_getI hB dX12_sign_54 fl_X12_159 sh_kM rfl ?_
    exact m2_iret h dX12_sign_57 k
  · replace k := k.2 q1
    refine m2_aload_n hB dX12_sign_24 rfl ?_
    refine m2_getR hB dX12_sign_25 fl_X12_57 sh_kM (c1 := kM_text) rfl ?_
    refine m2_aload_n hB dX12_sign_28 rfl ?_
    refine m2_dup hB dX12_sign_29 rfl ?_
    refine m2_getI hB dX12_sign_30 fl_X12_159 sh_kM rfl ?_
    refine m2_dup_x1 hB dX12_sign_33 rfl rfl ?_
    refine m2_iconst hB dX12_sign_34 (v := 1) (by decide) ?_
    refine m2_iadd hB dX12_sign_35 ?_
    refine m2_putI hB dX12_sign_36 fl_X12_159 sh_kM rfl ?_
    refine m2_iload_n hB dX12_sign_39 rfl ?_
    refine m2_bipush hB dX12_sign_40 (v := 8) (by decide) ?_
    refine m2_iload_n hB dX12_sign_42 rfl ?_
    refine m2_imul hB dX12_sign_43 ?_
    refine m2_ishr hB dX12_sign_44 ?_
    refine m2_i2b hB dX12_sign_45 ?_
    obtain ⟨hi2, k⟩ := k
    refine m2_bast hB dX12_sign_46 sh_kM_text hi2 ?_
    refine m2_iinc hB (ls' := [.ref kM, .int v1, .int (v2 + (-1))]) (v := (v2 + (-1))) dX12_sign_47 rfl (by decide) rfl rfl ?_
    refine m2_goto hB dX12_sign_50 (tgt := 20) (by decide) ?_
    exact k
theorem dX12_end_0 : decode cX12_end 0 = .ok (.aload_n 0, 1) := by decide +kernel
theorem dX12_end_1 : decode cX12_end 1 = .ok (.iconst 0, 1) := by decide +kernel
theorem dX12_end_2 : decode cX12_end 2 = .ok (.putfield 143, 3) := by decide +kernel
theorem dX12_end_5 : decode cX12_end 5 = .ok (.iload_n 1, 1) := by decide +kernel
theorem dX12_end_6 : decode cX12_end 6 = .ok (.iconst 0, 1) := by decide +kernel
theorem dX12_end_7 : decode cX12_end 7 = .ok (.aload_n 0, 1) := by decide +kernel
theorem dX12_end_8 : decode cX12_end 8 = .ok (.getfield 159, 3) := by decide +kernel
theorem dX12_end_11 : decode cX12_end 11 = .ok (.invokestatic 149, 3) := by decide +kernel
theorem dX12_end_14 : decode cX12_end 14 = .ok (.ifCond .ne 5, 3) := by decide +kernel
theorem dX12_end_17 : decode cX12_end 17 = .ok (.iconst 0, 1) := by decide +kernel
theorem dX12_end_18 : decode cX12_end 18 = .ok (.ireturn, 1) := by decide +kernel
theorem dX12_end_19 : decode cX12_end 19 = .ok (.aload_n 0, 1) := by decide +kernel
theorem dX12_end_20 : decode cX12_end 20 = .ok (.iload_n 1, 1) := by decide +kernel
theorem dX12_end_21 : decode cX12_end 21 = .ok (.putfield 159, 3) := by decide +kernel
theorem dX12_end_24 : decode cX12_end 24 = .ok (.iconst 1, 1) := by decide +kernel
theorem dX12_end_25 : decode cX12_end 25 = .ok (.ireturn, 1) := by decide +kernel
set_option maxRecDepth 100000 in
set_option maxHeartbeats 4000000 in
theorem B_X12_end_0 {κ : Nat → List Value → List Value → m2M → Prop} {D : Nat} {Q : Option Value → m2M → Prop} (h : m2_RL κ cX12_end RX12 2 (D + 1) (some .boolean) Q) (hD : 0 ≤ D) {x1 : Int32} {μ : m2M} (k : ((fX12_in x1 0 (μ.1 kM 19)) = 1 → Q (some (.int 1)) (m2_si (m2_si μ kM 22 0) kM 19 x1)) ∧ (¬ (fX12_in x1 0 (μ.1 kM 19)) = 1 → Q (some (.int 0)) (m2_si μ kM 22 0))) : κ 0 [.ref kM, .int x1] [] μ := by
  have hB := h.b
  refine m2_aload_n hB dX12_end_0 rfl ?_
  refine m2_iconst hB dX12_end_1 (v := 0) (by decide) ?_
  refine m2_putI hB dX12_end_2 fl_X12_143 sh_kM rfl ?_
  refine m2_iload_n hB dX12_end_5 rfl ?_
  refine m2_iconst hB dX12_end_6 (v := 0) (by decide) ?_
  refine m2_aload_n hB dX12_end_7 rfl ?_
  refine m2_getI hB dX12_end_8 fl_X12_159 sh_kM rfl ?_
  refine m2_invSz hB (as := [.int x1, .int 0, .int (μ.1 kM 19)]) dX12_end_11 ms_X12_149 rfl (Nat.le_of_ble_eq_true rfl) rfl (P_X12_in (by omega) (x1) (0) ((μ.1 kM 19)) _ ) (fun y1 μ2 hq3 => ?_)
  obtain ⟨⟨⟩, hq3⟩ := hq3
  subst μ2
  show κ 14 [.ref kM, .int x1] [.int (if (fX12_in x1 0 (μ.1 kM 19)) = 1 then 1 else 0 : Int32)] (m2_si μ kM 22 0)
  by_cases q4 : (fX12_in x1 0 (μ.1 kM 19)) = 1
  · rw [if_pos q4]
    replace k := k.1 q4
    refine m2_if_ne hB dX12_end_14 (tgt := 19) (by decide) (fun _ => ?_) (fun q => absurd q (by decide))
    refine m2_aload_n hB dX12_end_19 rfl ?_
    refine m2_iload_n hB dX12_end_20 rfl ?_
    refine m2_putI hB dX12_end_21 fl_X12_159 sh_kM rfl ?_
    refine m2_iconst hB dX12_end_24 (v := 1) (by decide) ?_
    exact m2_zret h dX12_end_25 (Or.inr rfl) k
  · rw [if_neg q4]
    replace k := k.2 q4
    refine m2_if_ne hB dX12_end_14 (tgt := 19) (by decide) (fun q => absurd q (by decide)) (fun _ => ?_)
    refine m2_iconst hB dX12_end_17 (v := 0) (by decide) ?_
    exact m2_zret h dX12_end_18 (Or.inl rfl) k
theorem dX12_begin_0 : decode cX12_begin 0 = .ok (.aload_n 0, 1) := by decide +kernel
theorem dX12_begin_1 : decode cX12_begin 1 = .ok (.aload_n 1, 1) := by decide +kernel
theorem dX12_begin_2 : decode cX12_begin 2 = .ok (.putfield 162, 3) := by decide +kernel
theorem dX12_begin_5 : decode cX12_begin 5 = .ok (.aload_n 0, 1) := by decide +kernel
theorem dX12_begin_6 : decode cX12_begin 6 = .ok (.iload_n 2, 1) := by decide +kernel
theorem dX12_begin_7 : decode cX12_begin 7 = .ok (.putfield 165, 3) := by decide +kernel
theorem dX12_begin_10 : decode cX12_begin 10 = .ok (.aload_n 0, 1) := by decide +kernel
theorem dX12_begin_11 : decode cX12_begin 11 = .ok (.iload_n 3, 1) := by decide +kernel
theorem dX12_begin_12 : decode cX12_begin 12 = .ok (.putfield 168, 3) := by decide +kernel
theorem dX12_begin_15 : decode cX12_begin 15 = .ok (.aload_n 0, 1) := by decide +kernel
theorem dX12_begin_16 : decode cX12_begin 16 = .ok (.iconst 0, 1) := by decide +kernel
theorem dX12_begin_17 : decode cX12_begin 17 = .ok (.putfield 171, 3) := by decide +kernel
theorem dX12_begin_20 : decode cX12_begin 20 = .ok (.aload_n 0, 1) := by decide +kernel
theorem dX12_begin_21 : decode cX12_begin 21 = .ok (.iconst (-1), 1) := by decide +kernel
theorem dX12_begin_22 : decode cX12_begin 22 = .ok (.putfield 174, 3) := by decide +kernel
theorem dX12_begin_25 : decode cX12_begin 25 = .ok (.return_, 1) := by decide +kernel
set_option maxRecDepth 100000 in
set_option maxHeartbeats 4000000 in
theorem B_X12_begin_0 {κ : Nat → List Value → List Value → m2M → Prop} {D : Nat} {Q : Option Value → m2M → Prop} (h : m2_RL κ cX12_begin RX12 4 D none Q) {cB : Nat} (hcB : cB < 2 ^ 31) {x2 : Int32} {x3 : Int32} {μ : m2M} (k : Q none (m2_si (m2_si (m2_si (m2_si (m2_si μ kM 23 (nI cB)) kM 24 x2) kM 25 x3) kM 26 0) kM 27 (-1))) : κ 0 [.ref kM, .ref cB, .int x2, .int x3] [] μ := by
  have hB := h.b
  refine m2_aload_n hB dX12_begin_0 rfl ?_
  refine m2_aload_n hB dX12_begin_1 rfl ?_
  refine m2_putD hB (c1 := cB) hcB dX12_begin_2 fl_X12_162 sh_kM rfl ?_
  refine m2_aload_n hB dX12_begin_5 rfl ?_
  refine m2_iload_n hB dX12_begin_6 rfl ?_
  refine m2_putI hB dX12_begin_7 fl_X12_165 sh_kM rfl ?_
  refine m2_aload_n hB dX12_begin_10 rfl ?_
  refine m2_iload_n hB dX12_begin_11 rfl ?_
  refine m2_putI hB dX12_begin_12 fl_X12_168 sh_kM rfl ?_
  refine m2_aload_n hB dX12_begin_15 rfl ?_
  refine m2_iconst hB dX12_begin_16 (v := 0) (by decide) ?_
  refine m2_putI hB dX12_begin_17 fl_X12_171 sh_kM rfl ?_
  refine m2_aload_n hB dX12_begin_20 rfl ?_
  refine m2_iconst hB dX12_begin_21 (v := (-1)) (by decide) ?_
  refine m2_putI hB dX12_begin_22 fl_X12_174 sh_kM rfl ?_
  exact m2_vret h dX12_begin_25 k
theorem dX12_here_0 : decode cX12_here 0 = .ok (.aload_n 0, 1) := by decide +kernel
theorem dX12_here_1 : decode cX12_here 1 = .ok (.getfield 171, 3) := by decide +kernel
theorem dX12_here_4 : decode cX12_here 4 = .ok (.aload_n 0, 1) := by decide +kernel
theorem dX12_here_5 : decode cX12_here 5 = .ok (.getfield 165, 3) := by decide +kernel
theorem dX12_here_8 : decode cX12_here 8 = .ok (.if_icmp .ge 26, 3) := by decide +kernel
theorem dX12_here_11 : decode cX12_here 11 = .ok (.aload_n 0, 1) := by decide +kernel
theorem dX12_here_12 : decode cX12_here 12 = .ok (.getfield 171, 3) := by decide +kernel
theorem dX12_here_15 : decode cX12_here 15 = .ok (.aload_n 0, 1) := by decide +kernel
theorem dX12_here_16 : decode cX12_here 16 = .ok (.getfield 168, 3) := by decide +kernel
theorem dX12_here_19 : decode cX12_here 19 = .ok (.if_icmp .ge 15, 3) := by decide +kernel
theorem dX12_here_22 : decode cX12_here 22 = .ok (.aload_n 0, 1) := by decide +kernel
theorem dX12_here_23 : decode cX12_here 23 = .ok (.getfield 162, 3) := by decide +kernel
theorem dX12_here_26 : decode cX12_here 26 = .ok (.aload_n 0, 1) := by decide +kernel
theorem dX12_here_27 : decode cX12_here 27 = .ok (.getfield 171, 3) := by decide +kernel
theorem dX12_here_30 : decode cX12_here 30 = .ok (.baload, 1) := by decide +kernel
theorem dX12_here_31 : decode cX12_here 31 = .ok (.goto 4, 3) := by decide +kernel
theorem dX12_here_34 : decode cX12_here 34 = .ok (.iconst (-1), 1) := by decide +kernel
theorem dX12_here_35 : decode cX12_here 35 = .ok (.ireturn, 1) := by decide +kernel
set_option maxRecDepth 100000 in
set_option maxHeartbeats 4000000 in
theorem B_X12_here_0 {κ : Nat → List Value → List Value → m2M → Prop} {D : Nat} {Q : Option Value → m2M → Prop} (h : m2_RL κ cX12_here RX12 1 D (some .int) Q)  {μ : m2M} (k : ((μ.1 kM 24) ≤ (μ.1 kM 26) → Q (some (.int (-1))) μ) ∧ (¬ (μ.1 kM 24) ≤ (μ.1 kM 26) → ((μ.1 kM 25) ≤ (μ.1 kM 26) → Q (some (.int (-1))) μ) ∧ (¬ (μ.1 kM 25) ≤ (μ.1 kM 26) → ((μ.1 kM 23) = nI kM_text ∨ (μ.1 kM 23) = nI kM_price) ∧ (((μ.1 kM 23) = nI kM_text → (vp_in (μ.1 kM 26) 80) ∧ (Q (some (.int (μ.1 kM_text ((μ.1 kM 26)).toNatClampNeg))) μ)) ∧ ((μ.1 kM 23) = nI kM_price → (vp_in (μ.1 kM 26) 40) ∧ (Q (some (.int (μ.1 kM_price ((μ.1 kM 26)).toNatClampNeg))) μ)))))) : κ 0 [.ref kM] [] μ := by
  have hB := h.b
  refine m2_aload_n hB dX12_here_0 rfl ?_
  refine m2_getI hB dX12_here_1 fl_X12_171 sh_kM rfl ?_
  refine m2_aload_n hB dX12_here_4 rfl ?_
  refine m2_getI hB dX12_here_5 fl_X12_165 sh_kM rfl ?_
  refine m2_icmp_ge hB dX12_here_8 (tgt := 34) (by decide) (fun q3 : (μ.1 kM 24) ≤ (μ.1 kM 26) => ?_) (fun q3 : ¬ (μ.1 kM 24) ≤ (μ.1 kM 26) => ?_)
  · replace k := k.1 q3
    refine m2_iconst hB dX12_here_34 (v := (-1)) (by decide) ?_
    exact m2_iret h dX12_here_35 k
  · replace k := k.2 q3
    refine m2_aload_n hB dX12_here_11 rfl ?_
    refine m2_getI hB dX12_here_12 fl_X12_171 sh_kM rfl ?_
    refine m2_aload_n hB dX12_here_15 rfl ?_
    refine m2_getI hB dX12_here_16 fl_X12_168 sh_kM rfl ?_
    refine m2_icmp_ge hB dX12_here_19 (tgt := 34) (by decide) (fun q6 : (μ.1 kM 25) ≤ (μ.1 kM 26) => ?_) (fun q6 : ¬ (μ.1 kM 25) ≤ (μ.1 kM 26) => ?_)
    · replace k := k.1 q6
      refine m2_iconst hB dX12_here_34 (v := (-1)) (by decide) ?_
      exact m2_iret h dX12_here_35 k
    · replace k := k.2 q6
      refine m2_aload_n hB dX12_here_22 rfl ?_
      obtain ⟨hr7, k⟩ := k
      rcases hr7 with hr7 | hr7
      · replace k := k.1 hr7
        refine m2_getD hB dX12_here_23 fl_X12_162 sh_kM (c1 := kM_text) rfl (by decide) hr7 ?_
        refine m2_aload_n hB dX12_here_26 rfl ?_
        refine m2_getI hB dX12_here_27 fl_X12_171 sh_kM rfl ?_
        obtain ⟨hi8, k⟩ := k
        refine m2_bald hB dX12_here_30 sh_kM_text hi8 ?_
        refine m2_goto hB dX12_here_31 (tgt := 35) (by decide) ?_
        exact m2_iret h dX12_here_35 k
      · replace k := k.2 hr7
        refine m2_getD hB dX12_here_23 fl_X12_162 sh_kM (c1 := kM_price) rfl (by decide) hr7 ?_
        refine m2_aload_n hB dX12_here_26 rfl ?_
        refine m2_getI hB dX12_here_27 fl_X12_171 sh_kM rfl ?_
        obtain ⟨hi9, k⟩ := k
        refine m2_bald hB dX12_here_30 sh_kM_price hi9 ?_
        refine m2_goto hB dX12_here_31 (tgt := 35) (by decide) ?_
        exact m2_iret h dX12_here_35 k
theorem dX12_fault_0 : decode cX12_fault 0 = .ok (.aload_n 0, 1) := by decide +kernel
theorem dX12_fault_1 : decode cX12_fault 1 = .ok (.invokevirtual 177, 3) := by decide +kernel
theorem dX12_fault_4 : decode cX12_fault 4 = .ok (.ifCond .eq 8, 3) := by decide +kernel
theorem dX12_fault_7 : decode cX12_fault 7 = .ok (.aload_n 0, 1) := by decide +kernel
theorem dX12_fault_8 : decode cX12_fault 8 = .ok (.iload_n 1, 1) := by decide +kernel
theorem dX12_fault_9 : decode cX12_fault 9 = .ok (.putfield 174, 3) := by decide +kernel
theorem dX12_fault_12 : decode cX12_fault 12 = .ok (.return_, 1) := by decide +kernel
set_option maxRecDepth 100000 in
set_option maxHeartbeats 4000000 in
theorem B_X12_fault_0 {κ : Nat → List Value → List Value → m2M → Prop} {D : Nat} {Q : Option Value → m2M → Prop} (h : m2_RL κ cX12_fault RX12 2 (D + 1) none Q) (hD : 0 ≤ D) {x1 : Int32} {μ : m2M} (k : ((fX12_fine μ) = 1 → Q none (m2_si μ kM 27 x1)) ∧ (¬ (fX12_fine μ) = 1 → Q none μ)) : κ 0 [.ref kM, .int x1] [] μ := by
  have hB := h.b
  refine m2_aload_n hB dX12_fault_0 rfl ?_
  refine m2_invz hB (as := []) dX12_fault_1 mv_X12_177 rfl sh_kM rfl (Nat.le_of_ble_eq_true rfl) rfl (P_X12_fine (by omega)  _ ) (fun y1 μ2 hq3 => ?_)
  obtain ⟨⟨⟩, hq3⟩ := hq3
  subst μ2
  show κ 4 [.ref kM, .int x1] [.int (if (fX12_fine μ) = 1 then 1 else 0 : Int32)] μ
  by_cases q4 : (fX12_fine μ) = 1
  · rw [if_pos q4]
    replace k := k.1 q4
    refine m2_if_eq hB dX12_fault_4 (tgt := 12) (by decide) (fun q => absurd q (by decide)) (fun _ => ?_)
    refine m2_aload_n hB dX12_fault_7 rfl ?_
    refine m2_iload_n hB dX12_fault_8 rfl ?_
    refine m2_putI hB dX12_fault_9 fl_X12_174 sh_kM rfl ?_
    exact m2_vret h dX12_fault_12 k
  · rw [if_neg q4]
    replace k := k.2 q4
    refine m2_if_eq hB dX12_fault_4 (tgt := 12) (by decide) (fun _ => ?_) (fun q => absurd q (by decide))
    exact m2_vret h dX12_fault_12 k
theorem dX12_passes_0 : decode cX12_passes 0 = .ok (.aload_n 0, 1) := by decide +kernel
theorem dX12_passes_1 : decode cX12_passes 1 = .ok (.invokevirtual 177, 3) := by decide +kernel
theorem dX12_passes_4 : decode cX12_passes 4 = .ok (.ifCond .eq 11, 3) := by decide +kernel
theorem dX12_passes_7 : decode cX12_passes 7 = .ok (.aload_n 0, 1) := by decide +kernel
theorem dX12_passes_8 : decode cX12_passes 8 = .ok (.invokevirtual 181, 3) := by decide +kernel
theorem dX12_passes_11 : decode cX12_passes 11 = .ok (.iload_n 1, 1) := by decide +kernel
theorem dX12_passes_12 : decode cX12_passes 12 = .ok (.if_icmp .eq 5, 3) := by decide +kernel
theorem dX12_passes_15 : decode cX12_passes 15 = .ok (.iconst 0, 1) := by decide +kernel
theorem dX12_passes_16 : decode cX12_passes 16 = .ok (.ireturn, 1) := by decide +kernel
theorem dX12_passes_17 : decode cX12_passes 17 = .ok (.aload_n 0, 1) := by decide +kernel
theorem dX12_passes_18 : decode cX12_passes 18 = .ok (.dup, 1) := by decide +kernel
theorem dX12_passes_19 : decode cX12_passes 19 = .ok (.getfield 171, 3) := by decide +kernel
theorem dX12_passes_22 : decode cX12_passes 22 = .ok (.iconst 1, 1) := by decide +kernel
theorem dX12_passes_23 : decode cX12_passes 23 = .ok (.iadd, 1) := by decide +kernel
theorem dX12_passes_24 : decode cX12_passes 24 = .ok (.putfield 171, 3) := by decide +kernel
theorem dX12_passes_27 : decode cX12_passes 27 = .ok (.iconst 1, 1) := by decide +kernel
theorem dX12_passes_28 : decode cX12_passes 28 = .ok (.ireturn, 1) := by decide +kernel
set_option maxRecDepth 100000 in
set_option maxHeartbeats 4000000 in
theorem B_X12_passes_0 {κ : Nat → List Value → List Value → m2M → Prop} {D : Nat} {Q : Option Value → m2M → Prop} (h : m2_RL κ cX12_passes RX12 2 (D + 1) (some .boolean) Q) (hD : 0 ≤ D) {x1 : Int32} {μ : m2M} (k : ((fX12_fine μ) = 1 → ∃ Q7 : Option Value → m2M → Prop, m2_MT D yX12_here cX12_here 1 (some .int) [.ref kM] μ Q7 ∧ ∀ (y5 : Int32) (μ6 : m2M), Q7 (some (.int y5)) μ6 → ((y5 = x1 → Q (some (.int 1)) (m2_si μ6 kM 26 ((μ6.1 kM 26) + 1))) ∧ (¬ y5 = x1 → Q (some (.int 0)) μ6))) ∧ (¬ (fX12_fine μ) = 1 → Q (some (.int 0)) μ)) : κ 0 [.ref kM, .int x1] [] μ := by
  have hB := h.b
  refine m2_aload_n hB dX12_passes_0 rfl ?_
  refine m2_invz hB (as := []) dX12_passes_1 mv_X12_177 rfl sh_kM rfl (Nat.le_of_ble_eq_true rfl) rfl (P_X12_fine (by omega)  _ ) (fun y1 μ2 hq3 => ?_)
  obtain ⟨⟨⟩, hq3⟩ := hq3
  subst μ2
  show κ 4 [.ref kM, .int x1] [.int (if (fX12_fine μ) = 1 then 1 else 0 : Int32)] μ
  by_cases q4 : (fX12_fine μ) = 1
  · rw [if_pos q4]
    replace k := k.1 q4
    refine m2_if_eq hB dX12_passes_4 (tgt := 15) (by decide) (fun q => absurd q (by decide)) (fun _ => ?_)
    refine m2_aload_n hB dX12_passes_7 rfl ?_
    obtain ⟨Q7, hM8, k⟩ := k
    refine m2_invi hB (as := []) dX12_passes_8 mv_X12_181 rfl sh_kM rfl (Nat.le_of_ble_eq_true rfl) rfl hM8 (fun y5 μ6 hq9 => ?_)
    replace k := k y5 μ6 hq9
    refine m2_iload_n hB dX12_passes_11 rfl ?_
    refine m2_icmp_eq hB dX12_passes_12 (tgt := 17) (by decide) (fun q10 : y5 = x1 => ?_) (fun q10 : ¬ y5 = x1 => ?_)
    · replace k := k.1 q10
      refine m2_aload_n hB dX12_passes_17 rfl ?_
      refine m2_dup hB dX12_passes_18 rfl ?_
      refine m2_getI hB dX12_passes_19 fl_X12_171 sh_kM rfl ?_
      refine m2_iconst hB dX12_passes_22 (v := 1) (by decide) ?_
      refine m2_iadd hB dX12_passes_23 ?_
      refine m2_putI hB dX12_passes_24 fl_X12_171 sh_kM rfl ?_
      refine m2_iconst hB dX12_passes_27 (v := 1) (by decide) ?_
      exact m2_zret h dX12_passes_28 (Or.inr rfl) k
    · replace k := k.2 q10
      refine m2_iconst hB dX12_passes_15 (v := 0) (by decide) ?_
      exact m2_zret h dX12_passes_16 (Or.inl rfl) k
  · rw [if_neg q4]
    replace k := k.2 q4
    refine m2_if_eq hB dX12_passes_4 (tgt := 15) (by decide) (fun _ => ?_) (fun q => absurd q (by decide))
    refine m2_iconst hB dX12_passes_15 (v := 0) (by decide) ?_
    exact m2_zret h dX12_passes_16 (Or.inl rfl) k
theorem dX12_need_0 : decode cX12_need 0 = .ok (.aload_n 0, 1) := by decide +kernel
theorem dX12_need_1 : decode cX12_need 1 = .ok (.iload_n 1, 1) := by decide +kernel
theorem dX12_need_2 : decode cX12_need 2 = .ok (.invokevirtual 185, 3) := by decide +kernel
theorem dX12_need_5 : decode cX12_need 5 = .ok (.ifCond .ne 11, 3) := by decide +kernel
theorem dX12_need_8 : decode cX12_need 8 = .ok (.aload_n 0, 1) := by decide +kernel
theorem dX12_need_9 : decode cX12_need 9 = .ok (.aload_n 0, 1) := by decide +kernel
theorem dX12_need_10 : decode cX12_need 10 = .ok (.getfield 171, 3) := by decide +kernel
theorem dX12_need_13 : decode cX12_need 13 = .ok (.invokevirtual 189, 3) := by decide +kernel
theorem dX12_need_16 : decode cX12_need 16 = .ok (.return_, 1) := by decide +kernel
set_option maxRecDepth 100000 in
set_option maxHeartbeats 4000000 in
theorem B_X12_need_0 {κ : Nat → List Value → List Value → m2M → Prop} {D : Nat} {Q : Option Value → m2M → Prop} (h : m2_RL κ cX12_need RX12 2 (D + 1) none Q) {x1 : Int32} {μ : m2M} (k : ∃ Q3 : Option Value → m2M → Prop, m2_MT D yX12_passes cX12_passes 2 (some .boolean) [.ref kM, .int x1] μ Q3 ∧ ∀ (y1 : Int32) (μ2 : m2M), Q3 (some (.int y1)) μ2 → ((¬ y1 = 0 → Q none μ2) ∧ (y1 = 0 → ∃ Q9 : Option Value → m2M → Prop, m2_MT D yX12_fault cX12_fault 2 none [.ref kM, .int (μ2.1 kM 26)] μ2 Q9 ∧ ∀ (μ8 : m2M), Q9 none μ8 → (Q none μ8)))) : κ 0 [.ref kM, .int x1] [] μ := by
  have hB := h.b
  refine m2_aload_n hB dX12_need_0 rfl ?_
  refine m2_iload_n hB dX12_need_1 rfl ?_
  obtain ⟨Q3, hM4, k⟩ := k
  refine m2_invz hB (as := [.int x1]) dX12_need_2 mv_X12_185 rfl sh_kM rfl (Nat.le_of_ble_eq_true rfl) rfl hM4 (fun y1 μ2 hq5 => ?_)
  replace k := k y1 μ2 hq5
  refine m2_if_ne hB dX12_need_5 (tgt := 16) (by decide) (fun q6 : ¬ y1 = 0 => ?_) (fun q6 : y1 = 0 => ?_)
  · replace k := k.1 q6
    exact m2_vret h dX12_need_16 k
  · replace k := k.2 q6
    refine m2_aload_n hB dX12_need_8 rfl ?_
    refine m2_aload_n hB dX12_need_9 rfl ?_
    refine m2_getI hB dX12_need_10 fl_X12_171 sh_kM rfl ?_
    obtain ⟨Q9, hM10, k⟩ := k
    refine m2_invv hB (as := [.int (μ2.1 kM 26)]) dX12_need_13 mv_X12_189 rfl sh_kM rfl (Nat.le_of_ble_eq_true rfl) rfl hM10 (fun μ8 hq11 => ?_)
    replace k := k μ8 hq11
    exact m2_vret h dX12_need_16 k
theorem dX12_number_0 : decode cX12_number 0 = .ok (.aload_n 0, 1) := by decide +kernel
theorem dX12_number_1 : decode cX12_number 1 = .ok (.invokevirtual 177, 3) := by decide +kernel
theorem dX12_number_4 : decode cX12_number 4 = .ok (.ifCond .ne 5, 3) := by decide +kernel
theorem dX12_number_7 : decode cX12_number 7 = .ok (.iconst 0, 1) := by decide +kernel
theorem dX12_number_8 : decode cX12_number 8 = .ok (.ireturn, 1) := by decide +kernel
theorem dX12_number_9 : decode cX12_number 9 = .ok (.aload_n 0, 1) := by decide +kernel
theorem dX12_number_10 : decode cX12_number 10 = .ok (.getfield 171, 3) := by decide +kernel
theorem dX12_number_13 : decode cX12_number 13 = .ok (.istore_n 3, 1) := by decide +kernel
theorem dX12_number_14 : decode cX12_number 14 = .ok (.iconst 0, 1) := by decide +kernel
theorem dX12_number_15 : decode cX12_number 15 = .ok (.istore 4, 2) := by decide +kernel
theorem dX12_number_17 : decode cX12_number 17 = .ok (.aload_n 0, 1) := by decide +kernel
theorem dX12_number_18 : decode cX12_number 18 = .ok (.getfield 171, 3) := by decide +kernel
theorem dX12_number_21 : decode cX12_number 21 = .ok (.iload_n 3, 1) := by decide +kernel
theorem dX12_number_22 : decode cX12_number 22 = .ok (.iload_n 1, 1) := by decide +kernel
theorem dX12_number_23 : decode cX12_number 23 = .ok (.iadd, 1) := by decide +kernel
theorem dX12_number_24 : decode cX12_number 24 = .ok (.if_icmp .ge 45, 3) := by decide +kernel
theorem dX12_number_27 : decode cX12_number 27 = .ok (.aload_n 0, 1) := by decide +kernel
theorem dX12_number_28 : decode cX12_number 28 = .ok (.invokevirtual 181, 3) := by decide +kernel
theorem dX12_number_31 : decode cX12_number 31 = .ok (.bipush 48, 2) := by decide +kernel
theorem dX12_number_33 : decode cX12_number 33 = .ok (.bipush 57, 2) := by decide +kernel
theorem dX12_number_35 : decode cX12_number 35 = .ok (.invokestatic 149, 3) := by decide +kernel
theorem dX12_number_38 : decode cX12_number 38 = .ok (.ifCond .eq 31, 3) := by decide +kernel
theorem dX12_number_41 : decode cX12_number 41 = .ok (.bipush 10, 2) := by decide +kernel
theorem dX12_number_43 : decode cX12_number 43 = .ok (.iload 4, 2) := by decide +kernel
theorem dX12_number_45 : decode cX12_number 45 = .ok (.imul, 1) := by decide +kernel
theorem dX12_number_46 : decode cX12_number 46 = .ok (.aload_n 0, 1) := by decide +kernel
theorem dX12_number_47 : decode cX12_number 47 = .ok (.invokevirtual 181, 3) := by decide +kernel
theorem dX12_number_50 : decode cX12_number 50 = .ok (.iadd, 1) := by decide +kernel
theorem dX12_number_51 : decode cX12_number 51 = .ok (.bipush 48, 2) := by decide +kernel
theorem dX12_number_53 : decode cX12_number 53 = .ok (.isub, 1) := by decide +kernel
theorem dX12_number_54 : decode cX12_number 54 = .ok (.istore 4, 2) := by decide +kernel
theorem dX12_number_56 : decode cX12_number 56 = .ok (.aload_n 0, 1) := by decide +kernel
theorem dX12_number_57 : decode cX12_number 57 = .ok (.dup, 1) := by decide +kernel
theorem dX12_number_58 : decode cX12_number 58 = .ok (.getfield 171, 3) := by decide +kernel
theorem dX12_number_61 : decode cX12_number 61 = .ok (.iconst 1, 1) := by decide +kernel
theorem dX12_number_62 : decode cX12_number 62 = .ok (.iadd, 1) := by decide +kernel
theorem dX12_number_63 : decode cX12_number 63 = .ok (.putfield 171, 3) := by decide +kernel
theorem dX12_number_66 : decode cX12_number 66 = .ok (.goto (-49), 3) := by decide +kernel
theorem dX12_number_69 : decode cX12_number 69 = .ok (.aload_n 0, 1) := by decide +kernel
theorem dX12_number_70 : decode cX12_number 70 = .ok (.getfield 171, 3) := by decide +kernel
theorem dX12_number_73 : decode cX12_number 73 = .ok (.iload_n 3, 1) := by decide +kernel
theorem dX12_number_74 : decode cX12_number 74 = .ok (.if_icmp .ne 14, 3) := by decide +kernel
theorem dX12_number_77 : decode cX12_number 77 = .ok (.aload_n 0, 1) := by decide +kernel
theorem dX12_number_78 : decode cX12_number 78 = .ok (.aload_n 0, 1) := by decide +kernel
theorem dX12_number_79 : decode cX12_number 79 = .ok (.getfield 171, 3) := by decide +kernel
theorem dX12_number_82 : decode cX12_number 82 = .ok (.invokevirtual 189, 3) := by decide +kernel
theorem dX12_number_85 : decode cX12_number 85 = .ok (.goto 19, 3) := by decide +kernel
theorem dX12_number_88 : decode cX12_number 88 = .ok (.iload 4, 2) := by decide +kernel
theorem dX12_number_90 : decode cX12_number 90 = .ok (.iload_n 2, 1) := by decide +kernel
theorem dX12_number_91 : decode cX12_number 91 = .ok (.if_icmp .le 13, 3) := by decide +kernel
theorem dX12_number_94 : decode cX12_number 94 = .ok (.aload_n 0, 1) := by decide +kernel
theorem dX12_number_95 : decode cX12_number 95 = .ok (.aload_n 0, 1) := by decide +kernel
theorem dX12_number_96 : decode cX12_number 96 = .ok (.getfield 171, 3) := by decide +kernel
theorem dX12_number_99 : decode cX12_number 99 = .ok (.iconst 1, 1) := by decide +kernel
theorem dX12_number_100 : decode cX12_number 100 = .ok (.isub, 1) := by decide +kernel
theorem dX12_number_101 : decode cX12_number 101 = .ok (.invokevirtual 189, 3) := by decide +kernel
theorem dX12_number_104 : decode cX12_number 104 = .ok (.aload_n 0, 1) := by decide +kernel
theorem dX12_number_105 : decode cX12_number 105 = .ok (.invokevirtual 177, 3) := by decide +kernel
theorem dX12_number_108 : decode cX12_number 108 = .ok (.ifCond .eq 8, 3) := by decide +kernel
theorem dX12_number_111 : decode cX12_number 111 = .ok (.iload 4, 2) := by decide +kernel
theorem dX12_number_113 : decode cX12_number 113 = .ok (.goto 4, 3) := by decide +kernel
theorem dX12_number_116 : decode cX12_number 116 = .ok (.iconst 0, 1) := by decide +kernel
theorem dX12_number_117 : decode cX12_number 117 = .ok (.ireturn, 1) := by decide +kernel
set_option maxRecDepth 100000 in
set_option maxHeartbeats 4000000 in
theorem B_X12_number_0 {κ : Nat → List Value → List Value → m2M → Prop} {D : Nat} {Q : Option Value → m2M → Prop} (h : m2_RL κ cX12_number RX12 5 (D + 1) (some .int) Q) (hD : 0 ≤ D) {x1 : Int32} {x2 : Int32} {μ : m2M} (k : ((fX12_fine μ) = 1 → κ 17 [.ref kM, .int x1, .int x2, .int (μ.1 kM 26), .int 0] [] μ) ∧ (¬ (fX12_fine μ) = 1 → Q (some (.int 0)) μ)) : κ 0 [.ref kM, .int x1, .int x2, .null, .null] [] μ := by
  have hB := h.b
  refine m2_aload_n hB dX12_number_0 rfl ?_
  refine m2_invz hB (as := []) dX12_number_1 mv_X12_177 rfl sh_kM rfl (Nat.le_of_ble_eq_true rfl) rfl (P_X12_fine (by omega)  _ ) (fun y1 μ2 hq3 => ?_)
  obtain ⟨⟨⟩, hq3⟩ := hq3
  subst μ2
  show κ 4 [.ref kM, .int x1, .int x2, .null, .null] [.int (if (fX12_fine μ) = 1 then 1 else 0 : Int32)] μ
  by_cases q4 : (fX12_fine μ) = 1
  · rw [if_pos q4]
    replace k := k.1 q4
    refine m2_if_ne hB dX12_number_4 (tgt := 9) (by decide) (fun _ => ?_) (fun q => absurd q (by decide))
    refine m2_aload_n hB dX12_number_9 rfl ?_
    refine m2_getI hB dX12_number_10 fl_X12_171 sh_kM rfl ?_
    refine m2_istore_n hB (ls' := [.ref kM, .int x1, .int x2, .int (μ.1 kM 26), .null]) dX12_number_13 rfl (by decide) rfl ?_
    refine m2_iconst hB dX12_number_14 (v := 0) (by decide) ?_
    refine m2_istore hB (ls' := [.ref kM, .int x1, .int x2, .int (μ.1 kM 26), .int 0]) dX12_number_15 (by decide) rfl ?_
    exact k
  · rw [if_neg q4]
    replace k := k.2 q4
    refine m2_if_ne hB dX12_number_4 (tgt := 9) (by decide) (fun q => absurd q (by decide)) (fun _ => ?_)
    refine m2_iconst hB dX12_number_7 (v := 0) (by decide) ?_
    exact m2_iret h dX12_number_8 k
set_option maxRecDepth 100000 in
set_option maxHeartbeats 4000000 in
theorem B_X12_number_17 {κ : Nat → List Value → List Value → m2M → Prop} {D : Nat} {Q : Option Value → m2M → Prop} (h : m2_RL κ cX12_number RX12 5 (D + 1) (some .int) Q) (hD : 0 ≤ D) {v1 : Int32} {v2 : Int32} {v3 : Int32} {v4 : Int32} {μ : m2M} (k : ((v3 + v1) ≤ (μ.1 kM 26) → (¬ (μ.1 kM 26) = v3 → (v4 ≤ v2 → ((fX12_fine μ) = 1 → Q (some (.int v4)) μ) ∧ (¬ (fX12_fine μ) = 1 → Q (some (.int 0)) μ)) ∧ (¬ v4 ≤ v2 → ∃ Q10 : Option Value → m2M → Prop, m2_MT D yX12_fault cX12_fault 2 none [.ref kM, .int ((μ.1 kM 26) - 1)] μ Q10 ∧ ∀ (μ9 : m2M), Q10 none μ9 → (((fX12_fine μ9) = 1 → Q (some (.int v4)) μ9) ∧ (¬ (fX12_fine μ9) = 1 → Q (some (.int 0)) μ9)))) ∧ ((μ.1 kM 26) = v3 → ∃ Q19 : Option Value → m2M → Prop, m2_MT D yX12_fault cX12_fault 2 none [.ref kM, .int (μ.1 kM 26)] μ Q19 ∧ ∀ (μ18 : m2M), Q19 none μ18 → (((fX12_fine μ18) = 1 → Q (some (.int v4)) μ18) ∧ (¬ (fX12_fine μ18) = 1 → Q (some (.int 0)) μ18)))) ∧ (¬ (v3 + v1) ≤ (μ.1 kM 26) → ∃ Q28 : Option Value → m2M → Prop, m2_MT D yX12_here cX12_here 1 (some .int) [.ref kM] μ Q28 ∧ ∀ (y26 : Int32) (μ27 : m2M), Q28 (some (.int y26)) μ27 → (((fX12_in y26 48 57) = 1 → ∃ Q37 : Option Value → m2M → Prop, m2_MT D yX12_here cX12_here 1 (some .int) [.ref kM] μ27 Q37 ∧ ∀ (y35 : Int32) (μ36 : m2M), Q37 (some (.int y35)) μ36 → (κ 17 [.ref kM, .int v1, .int v2, .int v3, .int ((((10 : Int32) * v4) + y35) - 48)] [] (m2_si μ36 kM 26 ((μ36.1 kM 26) + 1)))) ∧ (¬ (fX12_in y26 48 57) = 1 → (¬ (μ27.1 kM 26) = v3 → (v4 ≤ v2 → ((fX12_fine μ27) = 1 → Q (some (.int v4)) μ27) ∧ (¬ (fX12_fine μ27) = 1 → Q (some (.int 0)) μ27)) ∧ (¬ v4 ≤ v2 → ∃ Q48 : Option Value → m2M → Prop, m2_MT D yX12_fault cX12_fault 2 none [.ref kM, .int ((μ27.1 kM 26) - 1)] μ27 Q48 ∧ ∀ (μ47 : m2M), Q48 none μ47 → (((fX12_fine μ47) = 1 → Q (some (.int v4)) μ47) ∧ (¬ (fX12_fine μ47) = 1 → Q (some (.int 0)) μ47)))) ∧ ((μ27.1 kM 26) = v3 → ∃ Q57 : Option Value → m2M → Prop, m2_MT D yX12_fault cX12_fault 2 none [.ref kM, .int (μ27.1 kM 26)] μ27 Q57 ∧ ∀ (μ56 : m2M), Q57 none μ56 → (((fX12_fine μ56) = 1 → Q (some (.int v4)) μ56) ∧ (¬ (fX12_fine μ56) = 1 → Q (some (.int 0)) μ56))))))) : κ 17 [.ref kM, .int v1, .int v2, .int v3, .int v4] [] μ := by
  have hB := h.b
  refine m2_aload_n hB dX12_number_17 rfl ?_
  refine m2_getI hB dX12_number_18 fl_X12_171 sh_kM rfl ?_
  refine m2_iload_n hB dX12_number_21 rfl ?_
  refine m2_iload_n hB dX12_number_22 rfl ?_
  refine m2_iadd hB dX12_number_23 ?_
  refine m2_icmp_ge hB dX12_number_24 (tgt := 69) (by decide) (fun q1 : (v3 + v1) ≤ (μ.1 kM 26) => ?_) (fun q1 : ¬ (v3 + v1) ≤ (μ.1 kM 26) => ?_)
  · replace k := k.1 q1
    refine m2_aload_n hB dX12_number_69 rfl ?_
    refine m2_getI hB dX12_number_70 fl_X12_171 sh_kM rfl ?_
    refine m2_iload_n hB dX12_number_73 rfl ?_
    refine m2_icmp_ne hB dX12_number_74 (tgt := 88) (by decide) (fun q2 : ¬ (μ.1 kM 26) = v3 => ?_) (fun q2 : (μ.1 kM 26) = v3 => ?_)
    · replace k := k.1 q2
      refine m2_iload hB dX12_number_88 rfl ?_
      refine m2_iload_n hB dX12_number_90 rfl ?_
      refine m2_icmp_le hB dX12_number_91 (tgt := 104) (by decide) (fun q3 : v4 ≤ v2 => ?_) (fun q3 : ¬ v4 ≤ v2 => ?_)
      · replace k := k.1 q3
        refine m2_aload_n hB dX12_number_104 rfl ?_
        refine m2_invz hB (as := []) dX12_number_105 mv_X12_177 rfl sh_kM rfl (Nat.le_of_ble_eq_true rfl) rfl (P_X12_fine (by omega)  _ ) (fun y4 μ5 hq6 => ?_)
        obtain ⟨⟨⟩, hq6⟩ := hq6
        subst μ5
        show κ 108 [.ref kM, .int v1, .int v2, .int v3, .int v4] [.int (if (fX12_fine μ) = 1 then 1 else 0 : Int32)] μ
        by_cases q7 : (fX12_fine μ) = 1
        · rw [if_pos q7]
          replace k := k.1 q7
          refine m2_if_eq hB dX12_number_108 (tgt := 116) (by decide) (fun q => absurd q (by decide)) (fun _ => ?_)
          refine m2_iload hB dX12_number_111 rfl ?_
          refine m2_goto hB dX12_number_113 (tgt := 117) (by decide) ?_
          exact m2_iret h dX12_number_117 k
        · rw [if_neg q7]
          replace k := k.2 q7
          refine m2_if_eq hB dX12_number_108 (tgt := 116) (by decide) (fun _ => ?_) (fun q => absurd q (by decide))
          refine m2_iconst hB dX12_number_116 (v := 0) (by decide) ?_
          exact m2_iret h dX12_number_117 k
      · replace k := k.2 q3
        refine m2_aload_n hB dX12_number_94 rfl ?_
        refine m2_aload_n hB dX12_number_95 rfl ?_
        refine m2_getI hB dX12_number_96 fl_X12_171 sh_kM rfl ?_
        refine m2_iconst hB dX12_number_99 (v := 1) (by decide) ?_
        refine m2_isub hB dX12_number_100 ?_
        obtain ⟨Q10, hM11, k⟩ := k
        refine m2_invv hB (as := [.int ((μ.1 kM 26) - 1)]) dX12_number_101 mv_X12_189 rfl sh_kM rfl (Nat.le_of_ble_eq_true rfl) rfl hM11 (fun μ9 hq12 => ?_)
        replace k := k μ9 hq12
        refine m2_aload_n hB dX12_number_104 rfl ?_
        refine m2_invz hB (as := []) dX12_number_105 mv_X12_177 rfl sh_kM rfl (Nat.le_of_ble_eq_true rfl) rfl (P_X12_fine (by omega)  _ ) (fun y13 μ14 hq15 => ?_)
        obtain ⟨⟨⟩, hq15⟩ := hq15
        subst μ14
        show κ 108 [.ref kM, .int v1, .int v2, .int v3, .int v4] [.int (if (fX12_fine μ9) = 1 then 1 else 0 : Int32)] μ9
        by_cases q16 : (fX12_fine μ9) = 1
        · rw [if_pos q16]
          replace k := k.1 q16
          refine m2_if_eq hB dX12_number_108 (tgt := 116) (by decide) (fun q => absurd q (by decide)) (fun _ => ?_)
          refine m2_iload hB dX12_number_111 rfl ?_
          refine m2_goto hB dX12_number_113 (tgt := 117) (by decide) ?_
          exact m2_iret h dX12_number_117 k
        · rw [if_neg q16]
          replace k := k.2 q16
          refine m2_if_eq hB dX12_number_108 (tgt := 116) (by decide) (fun _ => ?_) (fun q => absurd q (by decide))
          refine m2_iconst hB dX12_number_116 (v := 0) (by decide) ?_
          exact m2_iret h dX12_number_117 k
    · replace k := k.2 q2
      refine m2_aload_n hB dX12_number_77 rfl ?_
      refine m2_aload_n hB dX12_number_78 rfl ?_
      refine m2_getI hB dX12_number_79 fl_X12_171 sh_kM rfl ?_
      obtain ⟨Q19, hM20, k⟩ := k
      refine m2_invv hB (as := [.int (μ.1 kM 26)]) dX12_number_82 mv_X12_189 rfl sh_kM rfl (Nat.le_of_ble_eq_true rfl) rfl hM20 (fun μ18 hq21 => ?_)
      replace k := k μ18 hq21
      refine m2_goto hB dX12_number_85 (tgt := 104) (by decide) ?_
      refine m2_aload_n hB dX12_number_104 rfl ?_
      refine m2_invz hB (as := []) dX12_number_105 mv_X12_177 rfl sh_kM rfl (Nat.le_of_ble_eq_true rfl) rfl (P_X12_fine (by omega)  _ ) (fun y22 μ23 hq24 => ?_)
      obtain ⟨⟨⟩, hq24⟩ := hq24
      subst μ23
      show κ 108 [.ref kM, .int v1, .int v2, .int v3, .int v4] [.int (if (fX12_fine μ18) = 1 then 1 else 0 : Int32)] μ18
      by_cases q25 : (fX12_fine μ18) = 1
      · rw [if_pos q25]
        replace k := k.1 q25
        refine m2_if_eq hB dX12_number_108 (tgt := 116) (by decide) (fun q => absurd q (by decide)) (fun _ => ?_)
        refine m2_iload hB dX12_number_111 rfl ?_
        refine m2_goto hB dX12_number_113 (tgt := 117) (by decide) ?_
        exact m2_iret h dX12_number_117 k
      · rw [if_neg q25]
        replace k := k.2 q25
        refine m2_if_eq hB dX12_number_108 (tgt := 116) (by decide) (fun _ => ?_) (fun q => absurd q (by decide))
        refine m2_iconst hB dX12_number_116 (v := 0) (by decide) ?_
        exact m2_iret h dX12_number_117 k
  · replace k := k.2 q1
    refine m2_aload_n hB dX12_number_27 rfl ?_
    obtain ⟨Q28, hM29, k⟩ := k
    refine m2_invi hB (as := []) dX12_number_28 mv_X12_181 rfl sh_kM rfl (Nat.le_of_ble_eq_true rfl) rfl hM29 (fun y26 μ27 hq30 => ?_)
    replace k := k y26 μ27 hq30
    refine m2_bipush hB dX12_number_31 (v := 48) (by decide) ?_
    refine m2_bipush hB dX12_number_33 (v := 57) (by decide) ?_
    refine m2_invSz hB (as := [.int y26, .int 48, .int 57]) dX12_number_35 ms_X12_149 rfl (Nat.le_of_ble_eq_true rfl) rfl (P_X12_in (by omega) (y26) (48) (57) _ ) (fun y31 μ32 hq33 => ?_)
    obtain ⟨⟨⟩, hq33⟩ := hq33
    subst μ32
    show κ 38 [.ref kM, .int v1, .int v2, .int v3, .int v4] [.int (if (fX12_in y26 48 57) = 1 then 1 else 0 : Int32)] μ27
    by_cases q34 : (fX12_in y26 48 57) = 1
    · rw [if_pos q34]
      replace k := k.1 q34
      refine m2_if_eq hB dX12_number_38 (tgt := 69) (by decide) (fun q => absurd q (by decide)) (fun _ => ?_)
      refine m2_bipush hB dX12_number_41 (v := 10) (by decide) ?_
      refine m2_iload hB dX12_number_43 rfl ?_
      refine m2_imul hB dX12_number_45 ?_
      refine m2_aload_n hB dX12_number_46 rfl ?_
      obtain ⟨Q37, hM38, k⟩ := k
      refine m2_invi hB (as := []) dX12_number_47 mv_X12_181 rfl sh_kM rfl (Nat.le_of_ble_eq_true rfl) rfl hM38 (fun y35 μ36 hq39 => ?_)
      replace k := k y35 μ36 hq39
      refine m2_iadd hB dX12_number_50 ?_
      refine m2_bipush hB dX12_number_51 (v := 48) (by decide) ?_
      refine m2_isub hB dX12_number_53 ?_
      refine m2_istore hB (ls' := [.ref kM, .int v1, .int v2, .int v3, .int ((((10 : Int32) * v4) + y35) - 48)]) dX12_number_54 (by decide) rfl ?_
      refine m2_aload_n hB dX12_number_56 rfl ?_
      refine m2_dup hB dX12_number_57 rfl ?_
      refine m2_getI hB dX12_number_58 fl_X12_171 sh_kM rfl ?_
      refine m2_iconst hB dX12_number_61 (v := 1) (by decide) ?_
      refine m2_iadd hB dX12_number_62 ?_
      refine m2_putI hB dX12_number_63 fl_X12_171 sh_kM rfl ?_
      refine m2_goto hB dX12_number_66 (tgt := 17) (by decide) ?_
      exact k
    · rw [if_neg q34]
      replace k := k.2 q34
      refine m2_if_eq hB dX12_number_38 (tgt := 69) (by decide) (fun _ => ?_) (fun q => absurd q (by decide))
      refine m2_aload_n hB dX12_number_69 rfl ?_
      refine m2_getI hB dX12_number_70 fl_X12_171 sh_kM rfl ?_
      refine m2_iload_n hB dX12_number_73 rfl ?_
      refine m2_icmp_ne hB dX12_number_74 (tgt := 88) (by decide) (fun q40 : ¬ (μ27.1 kM 26) = v3 => ?_) (fun q40 : (μ27.1 kM 26) = v3 => ?_)
      · replace k := k.1 q40
        refine m2_iload hB dX12_number_88 rfl ?_
        refine m2_iload_n hB dX12_number_90 rfl ?_
        refine m2_icmp_le hB dX12_number_91 (tgt := 104) (by decide) (fun q41 : v4 ≤ v2 => ?_) (fun q41 : ¬ v4 ≤ v2 => ?_)
        · replace k := k.1 q41
          refine m2_aload_n hB dX12_number_104 rfl ?_
          refine m2_invz hB (as := []) dX12_number_105 mv_X12_177 rfl sh_kM rfl (Nat.le_of_ble_eq_true rfl) rfl (P_X12_fine (by omega)  _ ) (fun y42 μ43 hq44 => ?_)
          obtain ⟨⟨⟩, hq44⟩ := hq44
          subst μ43
          show κ 108 [.ref kM, .int v1, .int v2, .int v3, .int v4] [.int (if (fX12_fine μ27) = 1 then 1 else 0 : Int32)] μ27
          by_cases q45 : (fX12_fine μ27) = 1
          · rw [if_pos q45]
            replace k := k.1 q45
            refine m2_if_eq hB dX12_number_108 (tgt := 116) (by decide) (fun q => absurd q (by decide)) (fun _ => ?_)
            refine m2_iload hB dX12_number_111 rfl ?_
            refine m2_goto hB dX12_number_113 (tgt := 117) (by decide) ?_
            exact m2_iret h dX12_number_117 k
          · rw [if_neg q45]
            replace k := k.2 q45
            refine m2_if_eq hB dX12_number_108 (tgt := 116) (by decide) (fun _ => ?_) (fun q => absurd q (by decide))
            refine m2_iconst hB dX12_number_116 (v := 0) (by decide) ?_
            exact m2_iret h dX12_number_117 k
        · replace k := k.2 q41
          refine m2_aload_n hB dX12_number_94 rfl ?_
          refine m2_aload_n hB dX12_number_95 rfl ?_
          refine m2_getI hB dX12_number_96 fl_X12_171 sh_kM rfl ?_
          refine m2_iconst hB dX12_number_99 (v := 1) (by decide) ?_
          refine m2_isub hB dX12_number_100 ?_
          obtain ⟨Q48, hM49, k⟩ := k
          refine m2_invv hB (as := [.int ((μ27.1 kM 26) - 1)]) dX12_number_101 mv_X12_189 rfl sh_kM rfl (Nat.le_of_ble_eq_true rfl) rfl hM49 (fun μ47 hq50 => ?_)
          replace k := k μ47 hq50
          refine m2_aload_n hB dX12_number_104 rfl ?_
          refine m2_invz hB (as := []) dX12_number_105 mv_X12_177 rfl sh_kM rfl (Nat.le_of_ble_eq_true rfl) rfl (P_X12_fine (by omega)  _ ) (fun y51 μ52 hq53 => ?_)
          obtain ⟨⟨⟩, hq53⟩ := hq53
          subst μ52
          show κ 108 [.ref kM, .int v1, .int v2, .int v3, .int v4] [.int (if (fX12_fine μ47) = 1 then 1 else 0 : Int32)] μ47
          by_cases q54 : (fX12_fine μ47) = 1
          · rw [if_pos q54]
            replace k := k.1 q54
            refine m2_if_eq hB dX12_number_108 (tgt := 116) (by decide) (fun q => absurd q (by decide)) (fun _ => ?_)
            refine m2_iload hB dX12_number_111 rfl ?_
            refine m2_goto hB dX12_number_113 (tgt := 117) (by decide) ?_
            exact m2_iret h dX12_number_117 k
          · rw [if_neg q54]
            replace k := k.2 q54
            refine m2_if_eq hB dX12_number_108 (tgt := 116) (by decide) (fun _ => ?_) (fun q => absurd q (by decide))
            refine m2_iconst hB dX12_number_116 (v := 0) (by decide) ?_
            exact m2_iret h dX12_number_117 k
      · replace k := k.2 q40
        refine m2_aload_n hB dX12_number_77 rfl ?_
        refine m2_aload_n hB dX12_number_78 rfl ?_
        refine m2_getI hB dX12_number_79 fl_X12_171 sh_kM rfl ?_
        obtain ⟨Q57, hM58, k⟩ := k
        refine m2_invv hB (as := [.int (μ27.1 kM 26)]) dX12_number_82 mv_X12_189 rfl sh_kM rfl (Nat.le_of_ble_eq_true rfl) rfl hM58 (fun μ56 hq59 => ?_)
        replace k := k μ56 hq59
        refine m2_goto hB dX12_number_85 (tgt := 104) (by decide) ?_
        refine m2_aload_n hB dX12_number_104 rfl ?_
        refine m2_invz hB (as := []) dX12_number_105 mv_X12_177 rfl sh_kM rfl (Nat.le_of_ble_eq_true rfl) rfl (P_X12_fine (by omega)  _ ) (fun y60 μ61 hq62 => ?_)
        obtain ⟨⟨⟩, hq62⟩ := hq62
        subst μ61
        show κ 108 [.ref kM, .int v1, .int v2, .int v3, .int v4] [.int (if (fX12_fine μ56) = 1 then 1 else 0 : Int32)] μ56
        by_cases q63 : (fX12_fine μ56) = 1
        · rw [if_pos q63]
          replace k := k.1 q63
          refine m2_if_eq hB dX12_number_108 (tgt := 116) (by decide) (fun q => absurd q (by decide)) (fun _ => ?_)
          refine m2_iload hB dX12_number_111 rfl ?_
          refine m2_goto hB dX12_number_113 (tgt := 117) (by decide) ?_
          exact m2_iret h dX12_number_117 k
        · rw [if_neg q63]
          replace k := k.2 q63
          refine m2_if_eq hB dX12_number_108 (tgt := 116) (by decide) (fun _ => ?_) (fun q => absurd q (by decide))
          refine m2_iconst hB dX12_number_116 (v := 0) (by decide) ?_
          exact m2_iret h dX12_number_117 k
theorem dX12_house_0 : decode cX12_house 0 = .ok (.aload_n 0, 1) := by decide +kernel
theorem dX12_house_1 : decode cX12_house 1 = .ok (.iconst 0, 1) := by decide +kernel
theorem dX12_house_2 : decode cX12_house 2 = .ok (.putfield 143, 3) := by decide +kernel
theorem dX12_house_5 : decode cX12_house 5 = .ok (.aload_n 0, 1) := by decide +kernel
theorem dX12_house_6 : decode cX12_house 6 = .ok (.aload_n 0, 1) := by decide +kernel
theorem dX12_house_7 : decode cX12_house 7 = .ok (.getfield 57, 3) := by decide +kernel
theorem dX12_house_10 : decode cX12_house 10 = .ok (.aload_n 0, 1) := by decide +kernel
theorem dX12_house_11 : decode cX12_house 11 = .ok (.getfield 159, 3) := by decide +kernel
theorem dX12_house_14 : decode cX12_house 14 = .ok (.bipush 76, 2) := by decide +kernel
theorem dX12_house_16 : decode cX12_house 16 = .ok (.invokevirtual 193, 3) := by decide +kernel
theorem dX12_house_19 : decode cX12_house 19 = .ok (.aload_n 0, 1) := by decide +kernel
theorem dX12_house_20 : decode cX12_house 20 = .ok (.iconst 0, 1) := by decide +kernel
theorem dX12_house_21 : decode cX12_house 21 = .ok (.putfield 159, 3) := by decide +kernel
theorem dX12_house_24 : decode cX12_house 24 = .ok (.aload_n 0, 1) := by decide +kernel
theorem dX12_house_25 : decode cX12_house 25 = .ok (.getfield 153, 3) := by decide +kernel
theorem dX12_house_28 : decode cX12_house 28 = .ok (.istore_n 1, 1) := by decide +kernel
theorem dX12_house_29 : decode cX12_house 29 = .ok (.aload_n 0, 1) := by decide +kernel
theorem dX12_house_30 : decode cX12_house 30 = .ok (.getfield 156, 3) := by decide +kernel
theorem dX12_house_33 : decode cX12_house 33 = .ok (.istore_n 2, 1) := by decide +kernel
theorem dX12_house_34 : decode cX12_house 34 = .ok (.iconst 0, 1) := by decide +kernel
theorem dX12_house_35 : decode cX12_house 35 = .ok (.istore_n 3, 1) := by decide +kernel
theorem dX12_house_36 : decode cX12_house 36 = .ok (.aload_n 0, 1) := by decide +kernel
theorem dX12_house_37 : decode cX12_house 37 = .ok (.getfield 165, 3) := by decide +kernel
theorem dX12_house_40 : decode cX12_house 40 = .ok (.ifCond .le 7, 3) := by decide +kernel
theorem dX12_house_43 : decode cX12_house 43 = .ok (.iconst 1, 1) := by decide +kernel
theorem dX12_house_44 : decode cX12_house 44 = .ok (.goto 4, 3) := by decide +kernel
theorem dX12_house_47 : decode cX12_house 47 = .ok (.iconst 0, 1) := by decide +kernel
theorem dX12_house_48 : decode cX12_house 48 = .ok (.istore 4, 2) := by decide +kernel
theorem dX12_house_50 : decode cX12_house 50 = .ok (.iload 4, 2) := by decide +kernel
theorem dX12_house_52 : decode cX12_house 52 = .ok (.ifCond .eq 123, 3) := by decide +kernel
theorem dX12_house_55 : decode cX12_house 55 = .ok (.aload_n 0, 1) := by decide +kernel
theorem dX12_house_56 : decode cX12_house 56 = .ok (.invokevirtual 177, 3) := by decide +kernel
theorem dX12_house_59 : decode cX12_house 59 = .ok (.ifCond .eq 116, 3) := by decide +kernel
theorem dX12_house_62 : decode cX12_house 62 = .ok (.aload_n 0, 1) := by decide +kernel
theorem dX12_house_63 : decode cX12_house 63 = .ok (.invokevirtual 181, 3) := by decide +kernel
theorem dX12_house_66 : decode cX12_house 66 = .ok (.istore 5, 2) := by decide +kernel
theorem dX12_house_68 : decode cX12_house 68 = .ok (.iload 5, 2) := by decide +kernel
theorem dX12_house_70 : decode cX12_house 70 = .ok (.bipush 100, 2) := by decide +kernel
theorem dX12_house_72 : decode cX12_house 72 = .ok (.if_icmp .ne 29, 3) := by decide +kernel
theorem dX12_house_75 : decode cX12_house 75 = .ok (.aload_n 0, 1) := by decide +kernel
theorem dX12_house_76 : decode cX12_house 76 = .ok (.getfield 153, 3) := by decide +kernel
theorem dX12_house_79 : decode cX12_house 79 = .ok (.bipush 20, 2) := by decide +kernel
theorem dX12_house_81 : decode cX12_house 81 = .ok (.if_icmp .ge 20, 3) := by decide +kernel
theorem dX12_house_84 : decode cX12_house 84 = .ok (.aload_n 0, 1) := by decide +kernel
theorem dX12_house_85 : decode cX12_house 85 = .ok (.dup, 1) := by decide +kernel
theorem dX12_house_86 : decode cX12_house 86 = .ok (.getfield 171, 3) := by decide +kernel
theorem dX12_house_89 : decode cX12_house 89 = .ok (.iconst 1, 1) := by decide +kernel
theorem dX12_house_90 : decode cX12_house 90 = .ok (.iadd, 1) := by decide +kernel
theorem dX12_house_91 : decode cX12_house 91 = .ok (.putfield 171, 3) := by decide +kernel
theorem dX12_house_94 : decode cX12_house 94 = .ok (.aload_n 0, 1) := by decide +kernel
theorem dX12_house_95 : decode cX12_house 95 = .ok (.invokevirtual 197, 3) := by decide +kernel
theorem dX12_house_98 : decode cX12_house 98 = .ok (.goto 63, 3) := by decide +kernel
theorem dX12_house_101 : decode cX12_house 101 = .ok (.iload 5, 2) := by decide +kernel
theorem dX12_house_103 : decode cX12_house 103 = .ok (.bipush 112, 2) := by decide +kernel
theorem dX12_house_105 : decode cX12_house 105 = .ok (.if_icmp .eq 10, 3) := by decide +kernel
theorem dX12_house_108 : decode cX12_house 108 = .ok (.iload 5, 2) := by decide +kernel
theorem dX12_house_110 : decode cX12_house 110 = .ok (.bipush 115, 2) := by decide +kernel
theorem dX12_house_112 : decode cX12_house 112 = .ok (.if_icmp .ne 41, 3) := by decide +kernel
theorem dX12_house_115 : decode cX12_house 115 = .ok (.aload_n 0, 1) := by decide +kernel
theorem dX12_house_116 : decode cX12_house 116 = .ok (.getfield 156, 3) := by decide +kernel
theorem dX12_house_119 : decode cX12_house 119 = .ok (.bipush 8, 2) := by decide +kernel
theorem dX12_house_121 : decode cX12_house 121 = .ok (.if_icmp .ge 32, 3) := by decide +kernel
theorem dX12_house_124 : decode cX12_house 124 = .ok (.aload_n 0, 1) := by decide +kernel
theorem dX12_house_125 : decode cX12_house 125 = .ok (.dup, 1) := by decide +kernel
theorem dX12_house_126 : decode cX12_house 126 = .ok (.getfield 171, 3) := by decide +kernel
theorem dX12_house_129 : decode cX12_house 129 = .ok (.iconst 1, 1) := by decide +kernel
theorem dX12_house_130 : decode cX12_house 130 = .ok (.iadd, 1) := by decide +kernel
theorem dX12_house_131 : decode cX12_house 131 = .ok (.putfield 171, 3) := by decide +kernel
theorem dX12_house_134 : decode cX12_house 134 = .ok (.aload_n 0, 1) := by decide +kernel
theorem dX12_house_135 : decode cX12_house 135 = .ok (.iload 5, 2) := by decide +kernel
theorem dX12_house_137 : decode cX12_house 137 = .ok (.bipush 115, 2) := by decide +kernel
theorem dX12_house_139 : decode cX12_house 139 = .ok (.if_icmp .ne 7, 3) := by decide +kernel
theorem dX12_house_142 : decode cX12_house 142 = .ok (.iconst 1, 1) := by decide +kernel
theorem dX12_house_143 : decode cX12_house 143 = .ok (.goto 4, 3) := by decide +kernel
theorem dX12_house_146 : decode cX12_house 146 = .ok (.iconst 0, 1) := by decide +kernel
theorem dX12_house_147 : decode cX12_house 147 = .ok (.invokevirtual 200, 3) := by decide +kernel
theorem dX12_house_150 : decode cX12_house 150 = .ok (.goto 11, 3) := by decide +kernel
theorem dX12_house_153 : decode cX12_house 153 = .ok (.aload_n 0, 1) := by decide +kernel
theorem dX12_house_154 : decode cX12_house 154 = .ok (.aload_n 0, 1) := by decide +kernel
theorem dX12_house_155 : decode cX12_house 155 = .ok (.getfield 171, 3) := by decide +kernel
theorem dX12_house_158 : decode cX12_house 158 = .ok (.invokevirtual 189, 3) := by decide +kernel
theorem dX12_house_161 : decode cX12_house 161 = .ok (.iinc 3 1, 3) := by decide +kernel
theorem dX12_house_164 : decode cX12_house 164 = .ok (.aload_n 0, 1) := by decide +kernel
theorem dX12_house_165 : decode cX12_house 165 = .ok (.bipush 59, 2) := by decide +kernel
theorem dX12_house_167 : decode cX12_house 167 = .ok (.invokevirtual 185, 3) := by decide +kernel
theorem dX12_house_170 : decode cX12_house 170 = .ok (.istore 4, 2) := by decide +kernel
theorem dX12_house_172 : decode cX12_house 172 = .ok (.goto (-122), 3) := by decide +kernel
theorem dX12_house_175 : decode cX12_house 175 = .ok (.aload_n 0, 1) := by decide +kernel
theorem dX12_house_176 : decode cX12_house 176 = .ok (.getfield 171, 3) := by decide +kernel
theorem dX12_house_179 : decode cX12_house 179 = .ok (.aload_n 0, 1) := by decide +kernel
theorem dX12_house_180 : decode cX12_house 180 = .ok (.getfield 165, 3) := by decide +kernel
theorem dX12_house_183 : decode cX12_house 183 = .ok (.if_icmp .ge 11, 3) := by decide +kernel
theorem dX12_house_186 : decode cX12_house 186 = .ok (.aload_n 0, 1) := by decide +kernel
theorem dX12_house_187 : decode cX12_house 187 = .ok (.aload_n 0, 1) := by decide +kernel
theorem dX12_house_188 : decode cX12_house 188 = .ok (.getfield 171, 3) := by decide +kernel
theorem dX12_house_191 : decode cX12_house 191 = .ok (.invokevirtual 189, 3) := by decide +kernel
theorem dX12_house_194 : decode cX12_house 194 = .ok (.aload_n 0, 1) := by decide +kernel
theorem dX12_house_195 : decode cX12_house 195 = .ok (.invokevirtual 177, 3) := by decide +kernel
theorem dX12_house_198 : decode cX12_house 198 = .ok (.ifCond .eq 5, 3) := by decide +kernel
theorem dX12_house_201 : decode cX12_house 201 = .ok (.iload_n 3, 1) := by decide +kernel
theorem dX12_house_202 : decode cX12_house 202 = .ok (.ireturn, 1) := by decide +kernel
theorem dX12_house_203 : decode cX12_house 203 = .ok (.aload_n 0, 1) := by decide +kernel
theorem dX12_house_204 : decode cX12_house 204 = .ok (.iload_n 1, 1) := by decide +kernel
theorem dX12_house_205 : decode cX12_house 205 = .ok (.putfield 153, 3) := by decide +kernel
theorem dX12_house_208 : decode cX12_house 208 = .ok (.aload_n 0, 1) := by decide +kernel
theorem dX12_house_209 : decode cX12_house 209 = .ok (.iload_n 2, 1) := by decide +kernel
theorem dX12_house_210 : decode cX12_house 210 = .ok (.putfield 156, 3) := by decide +kernel
theorem dX12_house_213 : decode cX12_house 213 = .ok (.iconst (-1), 1) := by decide +kernel
theorem dX12_house_214 : decode cX12_house 214 = .ok (.aload_n 0, 1) := by decide +kernel
theorem dX12_house_215 : decode cX12_house 215 = .ok (.getfield 174, 3) := by decide +kernel
theorem dX12_house_218 : decode cX12_house 218 = .ok (.isub, 1) := by decide +kernel
theorem dX12_house_219 : decode cX12_house 219 = .ok (.ireturn, 1) := by decide +kernel
set_option maxRecDepth 100000 in
set_option maxHeartbeats 4000000 in
theorem B_X12_house_0 {κ : Nat → List Value → List Value → m2M → Prop} {D : Nat} {Q : Option Value → m2M → Prop} (h : m2_RL κ cX12_house RX12 6 (D + 1) (some .int) Q)  {μ : m2M} (k : ∃ Q3 : Option Value → m2M → Prop, m2_MT D yX12_begin cX12_begin 4 none [.ref kM, .ref kM_text, .int (μ.1 kM 19), .int 76] (m2_si μ kM 22 0) Q3 ∧ ∀ (μ2 : m2M), Q3 none μ2 → (κ 50 [.ref kM, .int (μ2.1 kM 0), .int (μ2.1 kM 7), .int 0, .int (if (μ2.1 kM 24) ≤ 0 then 0 else 1 : Int32), .null] [] (m2_si μ2 kM 19 0))) : κ 0 [.ref kM, .null, .null, .null, .null, .null] [] μ := by
  have hB := h.b
  refine m2_aload_n hB dX12_house_0 rfl ?_
  refine m2_iconst hB dX12_house_1 (v := 0) (by decide) ?_
  refine m2_putI hB dX12_house_2 fl_X12_143 sh_kM rfl ?_
  refine m2_aload_n hB dX12_house_5 rfl ?_
  refine m2_aload_n hB dX12_house_6 rfl ?_
  refine m2_getR hB dX12_house_7 fl_X12_57 sh_kM (c1 := kM_text) rfl ?_
  refine m2_aload_n hB dX12_house_10 rfl ?_
  refine m2_getI hB dX12_house_11 fl_X12_159 sh_kM rfl ?_
  refine m2_bipush hB dX12_house_14 (v := 76) (by decide) ?_
  obtain ⟨Q3, hM4, k⟩ := k
  refine m2_invv hB (as := [.ref kM_text, .int (μ.1 kM 19), .int 76]) dX12_house_16 mv_X12_193 rfl sh_kM rfl (Nat.le_of_ble_eq_true rfl) rfl hM4 (fun μ2 hq5 => ?_)
  replace k := k μ2 hq5
  refine m2_aload_n hB dX12_house_19 rfl ?_
  refine m2_iconst hB dX12_house_20 (v := 0) (by decide) ?_
  refine m2_putI hB dX12_house_21 fl_X12_159 sh_kM rfl ?_
  refine m2_aload_n hB dX12_house_24 rfl ?_
  refine m2_getI hB dX12_house_25 fl_X12_153 sh_kM rfl ?_
  refine m2_istore_n hB (ls' := [.ref kM, .int (μ2.1 kM 0), .null, .null, .null, .null]) dX12_house_28 rfl (by decide) rfl ?_
  refine m2_aload_n hB dX12_house_29 rfl ?_
  refine m2_getI hB dX12_house_30 fl_X12_156 sh_kM rfl ?_
  refine m2_istore_n hB (ls' := [.ref kM, .int (μ2.1 kM 0), .int (μ2.1 kM 7), .null, .null, .null]) dX12_house_33 rfl (by decide) rfl ?_
  refine m2_iconst hB dX12_house_34 (v := 0) (by decide) ?_
  refine m2_istore_n hB (ls' := [.ref kM, .int (μ2.1 kM 0), .int (μ2.1 kM 7), .int 0, .null, .null]) dX12_house_35 rfl (by decide) rfl ?_
  refine m2_aload_n hB dX12_house_36 rfl ?_
  refine m2_getI hB dX12_house_37 fl_X12_165 sh_kM rfl ?_
  have G7 : κ 48 [.ref kM, .int (μ2.1 kM 0), .int (μ2.1 kM 7), .int 0, .null, .null] [.int (if (μ2.1 kM 24) ≤ 0 then 0 else 1 : Int32)] (m2_si μ2 kM 19 0) := by
    refine m2_istore hB (ls' := [.ref kM, .int (μ2.1 kM 0), .int (μ2.1 kM 7), .int 0, .int (if (μ2.1 kM 24) ≤ 0 then 0 else 1 : Int32), .null]) dX12_house_48 (by decide) rfl ?_
    exact k
  refine m2_if_le hB dX12_house_40 (tgt := 47) (by decide) (fun q6 : (μ2.1 kM 24) ≤ 0 => ?_) (fun q6 : ¬ (μ2.1 kM 24) ≤ 0 => ?_)
  · rw [if_pos q6] at G7
    refine m2_iconst hB dX12_house_47 (v := 0) (by decide) ?_
    exact G7
  · rw [if_neg q6] at G7
    refine m2_iconst hB dX12_house_43 (v := 1) (by decide) ?_
    refine m2_goto hB dX12_house_44 (tgt := 48) (by decide) ?_
    exact G7
set_option maxRecDepth 100000 in
set_option maxHeartbeats 4000000 in
theorem B_X12_house_50 {κ : Nat → List Value → List Value → m2M → Prop} {D : Nat} {Q : Option Value → m2M → Prop} (h : m2_RL κ cX12_house RX12 6 (D + 1) (some .int) Q) (hD : 0 ≤ D) {v1 : Int32} {v2 : Int32} {v3 : Int32} {v4 : Int32} {μ : m2M} (k : (v4 = 0 → κ 175 [.ref kM, .int v1, .int v2, .int v3, .int v4, .null] [] μ) ∧ (¬ v4 = 0 → ((fX12_fine μ) = 1 → ∃ Q11 : Option Value → m2M → Prop, m2_MT D yX12_here cX12_here 1 (some .int) [.ref kM] μ Q11 ∧ ∀ (y9 : Int32) (μ10 : m2M), Q11 (some (.int y9)) μ10 → ((¬ y9 = 100 → κ 101 [.ref kM, .int v1, .int v2, .int v3, .int v4, .int y9] [] μ10) ∧ (y9 = 100 → (20 ≤ (μ10.1 kM 0) → κ 101 [.ref kM, .int v1, .int v2, .int v3, .int v4, .int y9] [] μ10) ∧ (¬ 20 ≤ (μ10.1 kM 0) → ∃ Q18 : Option Value → m2M → Prop, m2_MT D yX12_readDoor cX12_readDoor 6 none [.ref kM] (m2_si μ10 kM 26 ((μ10.1 kM 26) + 1)) Q18 ∧ ∀ (μ17 : m2M), Q18 none μ17 → (κ 161 [.ref kM, .int v1, .int v2, .int v3, .int v4, .int y9] [] μ17))))) ∧ (¬ (fX12_fine μ) = 1 → κ 175 [.ref kM, .int v1, .int v2, .int v3, .int v4, .null] [] μ))) : κ 50 [.ref kM, .int v1, .int v2, .int v3, .int v4, .null] [] μ := by
  have hB := h.b
  refine m2_iload hB dX12_house_50 rfl ?_
  refine m2_if_eq hB dX12_house_52 (tgt := 175) (by decide) (fun q4 : v4 = 0 => ?_) (fun q4 : ¬ v4 = 0 => ?_)
  · replace k := k.1 q4
    exact k
  · replace k := k.2 q4
    refine m2_aload_n hB dX12_house_55 rfl ?_
    refine m2_invz hB (as := []) dX12_house_56 mv_X12_177 rfl sh_kM rfl (Nat.le_of_ble_eq_true rfl) rfl (P_X12_fine (by omega)  _ ) (fun y5 μ6 hq7 => ?_)
    obtain ⟨⟨⟩, hq7⟩ := hq7
    subst μ6
    show κ 59 [.ref kM, .int v1, .int v2, .int v3, .int v4, .null] [.int (if (fX12_fine μ) = 1 then 1 else 0 : Int32)] μ
    by_cases q8 : (fX12_fine μ) = 1
    · rw [if_pos q8]
      replace k := k.1 q8
      refine m2_if_eq hB dX12_house_59 (tgt := 175) (by decide) (fun q => absurd q (by decide)) (fun _ => ?_)
      refine m2_aload_n hB dX12_house_62 rfl ?_
      obtain ⟨Q11, hM12, k⟩ := k
      refine m2_invi hB (as := []) dX12_house_63 mv_X12_181 rfl sh_kM rfl (Nat.le_of_ble_eq_true rfl) rfl hM12 (fun y9 μ10 hq13 => ?_)
      replace k := k y9 μ10 hq13
      refine m2_istore hB (ls' := [.ref kM, .int v1, .int v2, .int v3, .int v4, .int y9]) dX12_house_66 (by decide) rfl ?_
      refine m2_iload hB dX12_house_68 rfl ?_
      refine m2_bipush hB dX12_house_70 (v := 100) (by decide) ?_
      refine m2_icmp_ne hB dX12_house_72 (tgt := 101) (by decide) (fun q14 : ¬ y9 = 100 => ?_) (fun q14 : y9 = 100 => ?_)
      · replace k := k.1 q14
        exact k
      · replace k := k.2 q14
        refine m2_aload_n hB dX12_house_75 rfl ?_
        refine m2_getI hB dX12_house_76 fl_X12_153 sh_kM rfl ?_
        refine m2_bipush hB dX12_house_79 (v := 20) (by decide) ?_
        refine m2_icmp_ge hB dX12_house_81 (tgt := 101) (by decide) (fun q15 : 20 ≤ (μ10.1 kM 0) => ?_) (fun q15 : ¬ 20 ≤ (μ10.1 kM 0) => ?_)
        · replace k := k.1 q15
          exact k
        · replace k := k.2 q15
          refine m2_aload_n hB dX12_house_84 rfl ?_
          refine m2_dup hB dX12_house_85 rfl ?_
          refine m2_getI hB dX12_house_86 fl_X12_171 sh_kM rfl ?_
          refine m2_iconst hB dX12_house_89 (v := 1) (by decide) ?_
          refine m2_iadd hB dX12_house_90 ?_
          refine m2_putI hB dX12_house_91 fl_X12_171 sh_kM rfl ?_
          refine m2_aload_n hB dX12_house_94 rfl ?_
          obtain ⟨Q18, hM19, k⟩ := k
          refine m2_invv hB (as := []) dX12_house_95 mv_X12_197 rfl sh_kM rfl (Nat.le_of_ble_eq_true rfl) rfl hM19 (fun μ17 hq20 => ?_)
          replace k := k μ17 hq20
          refine m2_goto hB dX12_house_98 (tgt := 161) (by decide) ?_
          exact k
    · rw [if_neg q8]
      replace k := k.2 q8
      refine m2_if_eq hB dX12_house_59 (tgt := 175) (by decide) (fun _ => ?_) (fun q => absurd q (by decide))
      exact k
set_option maxRecDepth 100000 in
set_option maxHeartbeats 4000000 in
theorem B_X12_house_101 {κ : Nat → List Value → List Value → m2M → Prop} {D : Nat} {Q : Option Value → m2M → Prop} (h : m2_RL κ cX12_house RX12 6 D (some .int) Q) {v1 : Int32} {v2 : Int32} {v3 : Int32} {v4 : Int32} {v5 : Int32} {μ : m2M} (k : (v5 = 112 → κ 115 [.ref kM, .int v1, .int v2, .int v3, .int v4, .int v5] [] μ) ∧ (¬ v5 = 112 → (¬ v5 = 115 → κ 153 [.ref kM, .int v1, .int v2, .int v3, .int v4, .int v5] [] μ) ∧ (v5 = 115 → κ 115 [.ref kM, .int v1, .int v2, .int v3, .int v4, .int v5] [] μ))) : κ 101 [.ref kM, .int v1, .int v2, .int v3, .int v4, .int v5] [] μ := by
  have hB := h.b
  refine m2_iload hB dX12_house_101 rfl ?_
  refine m2_bipush hB dX12_house_103 (v := 112) (by decide) ?_
  refine m2_icmp_eq hB dX12_house_105 (tgt := 115) (by decide) (fun q1 : v5 = 112 => ?_) (fun q1 : ¬ v5 = 112 => ?_)
  · replace k := k.1 q1
    exact k
  · replace k := k.2 q1
    refine m2_iload hB dX12_house_108 rfl ?_
    refine m2_bipush hB dX12_house_110 (v := 115) (by decide) ?_
    refine m2_icmp_ne hB dX12_house_112 (tgt := 153) (by decide) (fun q2 : ¬ v5 = 115 => ?_) (fun q2 : v5 = 115 => ?_)
    · replace k := k.1 q2
      exact k
    · replace k := k.2 q2
      exact k
set_option maxRecDepth 100000 in
set_option maxHeartbeats 4000000 in
theorem B_X12_house_115 {κ : Nat → List Value → List Value → m2M → Prop} {D : Nat} {Q : Option Value → m2M → Prop} (h : m2_RL κ cX12_house RX12 6 (D + 1) (some .int) Q) {v1 : Int32} {v2 : Int32} {v3 : Int32} {v4 : Int32} {v5 : Int32} {μ : m2M} (k : (8 ≤ (μ.1 kM 7) → κ 153 [.ref kM, .int v1, .int v2, .int v3, .int v4, .int v5] [] μ) ∧ (¬ 8 ≤ (μ.1 kM 7) → ∃ Q6 : Option Value → m2M → Prop, m2_MT D yX12_readOne cX12_readOne 5 none [.ref kM, .int (if v5 = 115 then 1 else 0 : Int32)] (m2_si μ kM 26 ((μ.1 kM 26) + 1)) Q6 ∧ ∀ (μ5 : m2M), Q6 none μ5 → (κ 161 [.ref kM, .int v1, .int v2, .int v3, .int v4, .int v5] [] μ5))) : κ 115 [.ref kM, .int v1, .int v2, .int v3, .int v4, .int v5] [] μ := by
  have hB := h.b
  refine m2_aload_n hB dX12_house_115 rfl ?_
  refine m2_getI hB dX12_house_116 fl_X12_156 sh_kM rfl ?_
  refine m2_bipush hB dX12_house_119 (v := 8) (by decide) ?_
  refine m2_icmp_ge hB dX12_house_121 (tgt := 153) (by decide) (fun q1 : 8 ≤ (μ.1 kM 7) => ?_) (fun q1 : ¬ 8 ≤ (μ.1 kM 7) => ?_)
  · replace k := k.1 q1
    exact k
  · replace k := k.2 q1
    refine m2_aload_n hB dX12_house_124 rfl ?_
    refine m2_dup hB dX12_house_125 rfl ?_
    refine m2_getI hB dX12_house_126 fl_X12_171 sh_kM rfl ?_
    refine m2_iconst hB dX12_house_129 (v := 1) (by decide) ?_
    refine m2_iadd hB dX12_house_130 ?_
    refine m2_putI hB dX12_house_131 fl_X12_171 sh_kM rfl ?_
    refine m2_aload_n hB dX12_house_134 rfl ?_
    refine m2_iload hB dX12_house_135 rfl ?_
    refine m2_bipush hB dX12_house_137 (v := 115) (by decide) ?_
    have G3 : κ 147 [.ref kM, .int v1, .int v2, .int v3, .int v4, .int v5] [.int (if v5 = 115 then 1 else 0 : Int32), .ref kM] (m2_si μ kM 26 ((μ.1 kM 26) + 1)) := by
      obtain ⟨Q6, hM7, k⟩ := k
      refine m2_invv hB (as := [.int (if v5 = 115 then 1 else 0 : Int32)]) dX12_house_147 mv_X12_200 rfl sh_kM rfl (Nat.le_of_ble_eq_true rfl) rfl hM7 (fun μ5 hq8 => ?_)
      replace k := k μ5 hq8
      refine m2_goto hB dX12_house_150 (tgt := 161) (by decide) ?_
      exact k
    refine m2_icmp_ne hB dX12_house_139 (tgt := 146) (by decide) (fun q2 : ¬ v5 = 115 => ?_) (fun q2 : v5 = 115 => ?_)
    · rw [if_neg q2] at G3
      refine m2_iconst hB dX12_house_146 (v := 0) (by decide) ?_
      exact G3
    · rw [if_pos q2] at G3
      refine m2_iconst hB dX12_house_142 (v := 1) (by decide) ?_
      refine m2_goto hB dX12_house_143 (tgt := 147) (by decide) ?_
      exact G3
set_option maxRecDepth 100000 in
set_option maxHeartbeats 4000000 in
theorem B_X12_house_153 {κ : Nat → List Value → List Value → m2M → Prop} {D : Nat} {Q : Option Value → m2M → Prop} (h : m2_RL κ cX12_house RX12 6 (D + 1) (some .int) Q) {v1 : Int32} {v2 : Int32} {v3 : Int32} {v4 : Int32} {v5 : Int32} {μ : m2M} (k : ∃ Q3 : Option Value → m2M → Prop, m2_MT D yX12_fault cX12_fault 2 none [.ref kM, .int (μ.1 kM 26)] μ Q3 ∧ ∀ (μ2 : m2M), Q3 none μ2 → (κ 161 [.ref kM, .int v1, .int v2, .int v3, .int v4, .int v5] [] μ2)) : κ 153 [.ref kM, .int v1, .int v2, .int v3, .int v4, .int v5] [] μ := by
  have hB := h.b
  refine m2_aload_n hB dX12_house_153 rfl ?_
  refine m2_aload_n hB dX12_house_154 rfl ?_
  refine m2_getI hB dX12_house_155 fl_X12_171 sh_kM rfl ?_
  obtain ⟨Q3, hM4, k⟩ := k
  refine m2_invv hB (as := [.int (μ.1 kM 26)]) dX12_house_158 mv_X12_189 rfl sh_kM rfl (Nat.le_of_ble_eq_true rfl) rfl hM4 (fun μ2 hq5 => ?_)
  replace k := k μ2 hq5
  exact k
set_option maxRecDepth 100000 in
set_option maxHeartbeats 4000000 in
theorem B_X12_house_161 {κ : Nat → List Value → List Value → m2M → Prop} {D : Nat} {Q : Option Value → m2M → Prop} (h : m2_RL κ cX12_house RX12 6 (D + 1) (some .int) Q) {v1 : Int32} {v2 : Int32} {v3 : Int32} {v4 : Int32} {v5 : Int32} {μ : m2M} (k : ∃ Q3 : Option Value → m2M → Prop, m2_MT D yX12_passes cX12_passes 2 (some .boolean) [.ref kM, .int 59] μ Q3 ∧ ∀ (y1 : Int32) (μ2 : m2M), Q3 (some (.int y1)) μ2 → (κ 50 [.ref kM, .int v1, .int v2, .int (v3 + 1), .int y1, .null] [] μ2)) : κ 161 [.ref kM, .int v1, .int v2, .int v3, .int v4, .int v5] [] μ := by
  have hB := h.b
  refine m2_iinc hB (ls' := [.ref kM, .int v1, .int v2, .int (v3 + 1), .int v4, .int v5]) (v := (v3 + 1)) dX12_house_161 rfl (by decide) rfl rfl ?_
  refine m2_aload_n hB dX12_house_164 rfl ?_
  refine m2_bipush hB dX12_house_165 (v := 59) (by decide) ?_
  obtain ⟨Q3, hM4, k⟩ := k
  refine m2_invz hB (as := [.int 59]) dX12_house_167 mv_X12_185 rfl sh_kM rfl (Nat.le_of_ble_eq_true rfl) rfl hM4 (fun y1 μ2 hq5 => ?_)
  replace k := k y1 μ2 hq5
  refine m2_istore hB (ls' := [.ref kM, .int v1, .int v2, .int (v3 + 1), .int y1, .int v5]) dX12_house_170 (by decide) rfl ?_
  refine m2_goto hB dX12_house_172 (tgt := 50) (by decide) ?_
  exact m2_weak (ls' := [.ref kM, .int v1, .int v2, .int (v3 + 1), .int y1, .null]) hB ⟨Or.inr rfl, Or.inr rfl, Or.inr rfl, Or.inr rfl, Or.inr rfl, Or.inl rfl, trivial⟩ k
set_option maxRecDepth 100000 in
set_option maxHeartbeats 4000000 in
theorem B_X12_house_175 {κ : Nat → List Value → List Value → m2M → Prop} {D : Nat} {Q : Option Value → m2M → Prop} (h : m2_RL κ cX12_house RX12 6 (D + 1) (some .int) Q) {v1 : Int32} {v2 : Int32} {v3 : Int32} {v4 : Int32} {μ : m2M} (k : ((μ.1 kM 24) ≤ (μ.1 kM 26) → κ 194 [.ref kM, .int v1, .int v2, .int v3, .int v4, .null] [] μ) ∧ (¬ (μ.1 kM 24) ≤ (μ.1 kM 26) → ∃ Q4 : Option Value → m2M → Prop, m2_MT D yX12_fault cX12_fault 2 none [.ref kM, .int (μ.1 kM 26)] μ Q4 ∧ ∀ (μ3 : m2M), Q4 none μ3 → (κ 194 [.ref kM, .int v1, .int v2, .int v3, .int v4, .null] [] μ3))) : κ 175 [.ref kM, .int v1, .int v2, .int v3, .int v4, .null] [] μ := by
  have hB := h.b
  refine m2_aload_n hB dX12_house_175 rfl ?_
  refine m2_getI hB dX12_house_176 fl_X12_171 sh_kM rfl ?_
  refine m2_aload_n hB dX12_house_179 rfl ?_
  refine m2_getI hB dX12_house_180 fl_X12_165 sh_kM rfl ?_
  refine m2_icmp_ge hB dX12_house_183 (tgt := 194) (by decide) (fun q1 : (μ.1 kM 24) ≤ (μ.1 kM 26) => ?_) (fun q1 : ¬ (μ.1 kM 24) ≤ (μ.1 kM 26) => ?_)
  · replace k := k.1 q1
    exact k
  · replace k := k.2 q1
    refine m2_aload_n hB dX12_house_186 rfl ?_
    refine m2_aload_n hB dX12_house_187 rfl ?_
    refine m2_getI hB dX12_house_188 fl_X12_171 sh_kM rfl ?_
    obtain ⟨Q4, hM5, k⟩ := k
    refine m2_invv hB (as := [.int (μ.1 kM 26)]) dX12_house_191 mv_X12_189 rfl sh_kM rfl (Nat.le_of_ble_eq_true rfl) rfl hM5 (fun μ3 hq6 => ?_)
    replace k := k μ3 hq6
    exact k
set_option maxRecDepth 100000 in
set_option maxHeartbeats 4000000 in
theorem B_X12_house_194 {κ : Nat → List Value → List Value → m2M → Prop} {D : Nat} {Q : Option Value → m2M → Prop} (h : m2_RL κ cX12_house RX12 6 (D + 1) (some .int) Q) (hD : 0 ≤ D) {v1 : Int32} {v2 : Int32} {v3 : Int32} {v4 : Int32} {μ : m2M} (k : ((fX12_fine μ) = 1 → Q (some (.int v3)) μ) ∧ (¬ (fX12_fine μ) = 1 → Q (some (.int (((-1) : Int32) - (μ.1 kM 27)))) (m2_si (m2_si μ kM 0 v1) kM 7 v2))) : κ 194 [.ref kM, .int v1, .int v2, .int v3, .int v4, .null] [] μ := by
  have hB := h.b
  refine m2_aload_n hB dX12_house_194 rfl ?_
  refine m2_invz hB (as := []) dX12_house_195 mv_X12_177 rfl sh_kM rfl (Nat.le_of_ble_eq_true rfl) rfl (P_X12_fine (by omega)  _ ) (fun y1 μ2 hq3 => ?_)
  obtain ⟨⟨⟩, hq3⟩ := hq3
  subst μ2
  show κ 198 [.ref kM, .int v1, .int v2, .int v3, .int v4, .null] [.int (if (fX12_fine μ) = 1 then 1 else 0 : Int32)] μ
  by_cases q4 : (fX12_fine μ) = 1
  · rw [if_pos q4]
    replace k := k.1 q4
    refine m2_if_eq hB dX12_house_198 (tgt := 203) (by decide) (fun q => absurd q (by decide)) (fun _ => ?_)
    refine m2_iload_n hB dX12_house_201 rfl ?_
    exact m2_iret h dX12_house_202 k
  · rw [if_neg q4]
    replace k := k.2 q4
    refine m2_if_eq hB dX12_house_198 (tgt := 203) (by decide) (fun _ => ?_) (fun q => absurd q (by decide))
    refine m2_aload_n hB dX12_house_203 rfl ?_
    refine m2_iload_n hB dX12_house_204 rfl ?_
    refine m2_putI hB dX12_house_205 fl_X12_153 sh_kM rfl ?_
    refine m2_aload_n hB dX12_house_208 rfl ?_
    refine m2_iload_n hB dX12_house_209 rfl ?_
    refine m2_putI hB dX12_house_210 fl_X12_156 sh_kM rfl ?_
    refine m2_iconst hB dX12_house_213 (v := (-1)) (by decide) ?_
    refine m2_aload_n hB dX12_house_214 rfl ?_
    refine m2_getI hB dX12_house_215 fl_X12_174 sh_kM rfl ?_
    refine m2_isub hB dX12_house_218 ?_
    exact m2_iret h dX12_house_219 k
theorem dX12_readDoor_0 : decode cX12_readDoor 0 = .ok (.aload_n 0, 1) := by decide +kernel
theorem dX12_readDoor_1 : decode cX12_readDoor 1 = .ok (.iconst 2, 1) := by decide +kernel
theorem dX12_readDoor_2 : decode cX12_readDoor 2 = .ok (.bipush 11, 2) := by decide +kernel
theorem dX12_readDoor_4 : decode cX12_readDoor 4 = .ok (.invokevirtual 204, 3) := by decide +kernel
theorem dX12_readDoor_7 : decode cX12_readDoor 7 = .ok (.istore_n 1, 1) := by decide +kernel
theorem dX12_readDoor_8 : decode cX12_readDoor 8 = .ok (.aload_n 0, 1) := by decide +kernel
theorem dX12_readDoor_9 : decode cX12_readDoor 9 = .ok (.bipush 62, 2) := by decide +kernel
theorem dX12_readDoor_11 : decode cX12_readDoor 11 = .ok (.invokevirtual 185, 3) := by decide +kernel
theorem dX12_readDoor_14 : decode cX12_readDoor 14 = .ok (.istore_n 2, 1) := by decide +kernel
theorem dX12_readDoor_15 : decode cX12_readDoor 15 = .ok (.iload_n 2, 1) := by decide +kernel
theorem dX12_readDoor_16 : decode cX12_readDoor 16 = .ok (.ifCond .ne 9, 3) := by decide +kernel
theorem dX12_readDoor_19 : decode cX12_readDoor 19 = .ok (.aload_n 0, 1) := by decide +kernel
theorem dX12_readDoor_20 : decode cX12_readDoor 20 = .ok (.bipush 45, 2) := by decide +kernel
theorem dX12_readDoor_22 : decode cX12_readDoor 22 = .ok (.invokevirtual 208, 3) := by decide +kernel
theorem dX12_readDoor_25 : decode cX12_readDoor 25 = .ok (.aload_n 0, 1) := by decide +kernel
theorem dX12_readDoor_26 : decode cX12_readDoor 26 = .ok (.iconst 2, 1) := by decide +kernel
theorem dX12_readDoor_27 : decode cX12_readDoor 27 = .ok (.bipush 11, 2) := by decide +kernel
theorem dX12_readDoor_29 : decode cX12_readDoor 29 = .ok (.invokevirtual 204, 3) := by decide +kernel
theorem dX12_readDoor_32 : decode cX12_readDoor 32 = .ok (.istore_n 3, 1) := by decide +kernel
theorem dX12_readDoor_33 : decode cX12_readDoor 33 = .ok (.aload_n 0, 1) := by decide +kernel
theorem dX12_readDoor_34 : decode cX12_readDoor 34 = .ok (.invokevirtual 177, 3) := by decide +kernel
theorem dX12_readDoor_37 : decode cX12_readDoor 37 = .ok (.ifCond .eq 18, 3) := by decide +kernel
theorem dX12_readDoor_40 : decode cX12_readDoor 40 = .ok (.iload_n 1, 1) := by decide +kernel
theorem dX12_readDoor_41 : decode cX12_readDoor 41 = .ok (.iload_n 3, 1) := by decide +kernel
theorem dX12_readDoor_42 : decode cX12_readDoor 42 = .ok (.if_icmp .ne 13, 3) := by decide +kernel
theorem dX12_readDoor_45 : decode cX12_readDoor 45 = .ok (.aload_n 0, 1) := by decide +kernel
theorem dX12_readDoor_46 : decode cX12_readDoor 46 = .ok (.aload_n 0, 1) := by decide +kernel
theorem dX12_readDoor_47 : decode cX12_readDoor 47 = .ok (.getfield 171, 3) := by decide +kernel
theorem dX12_readDoor_50 : decode cX12_readDoor 50 = .ok (.iconst 1, 1) := by decide +kernel
theorem dX12_readDoor_51 : decode cX12_readDoor 51 = .ok (.isub, 1) := by decide +kernel
theorem dX12_readDoor_52 : decode cX12_readDoor 52 = .ok (.invokevirtual 189, 3) := by decide +kernel
theorem dX12_readDoor_55 : decode cX12_readDoor 55 = .ok (.aload_n 0, 1) := by decide +kernel
theorem dX12_readDoor_56 : decode cX12_readDoor 56 = .ok (.bipush 44, 2) := by decide +kernel
theorem dX12_readDoor_58 : decode cX12_readDoor 58 = .ok (.invokevirtual 208, 3) := by decide +kernel
theorem dX12_readDoor_61 : decode cX12_readDoor 61 = .ok (.aload_n 0, 1) := by decide +kernel
theorem dX12_readDoor_62 : decode cX12_readDoor 62 = .ok (.iconst 2, 1) := by decide +kernel
theorem dX12_readDoor_63 : decode cX12_readDoor 63 = .ok (.bipush 60, 2) := by decide +kernel
theorem dX12_readDoor_65 : decode cX12_readDoor 65 = .ok (.invokevirtual 204, 3) := by decide +kernel
theorem dX12_readDoor_68 : decode cX12_readDoor 68 = .ok (.istore 4, 2) := by decide +kernel
theorem dX12_readDoor_70 : decode cX12_readDoor 70 = .ok (.aload_n 0, 1) := by decide +kernel
theorem dX12_readDoor_71 : decode cX12_readDoor 71 = .ok (.bipush 64, 2) := by decide +kernel
theorem dX12_readDoor_73 : decode cX12_readDoor 73 = .ok (.invokevirtual 185, 3) := by decide +kernel
theorem dX12_readDoor_76 : decode cX12_readDoor 76 = .ok (.ifCond .eq 13, 3) := by decide +kernel
theorem dX12_readDoor_79 : decode cX12_readDoor 79 = .ok (.aload_n 0, 1) := by decide +kernel
theorem dX12_readDoor_80 : decode cX12_readDoor 80 = .ok (.iconst 2, 1) := by decide +kernel
theorem dX12_readDoor_81 : decode cX12_readDoor 81 = .ok (.bipush 60, 2) := by decide +kernel
theorem dX12_readDoor_83 : decode cX12_readDoor 83 = .ok (.invokevirtual 204, 3) := by decide +kernel
theorem dX12_readDoor_86 : decode cX12_readDoor 86 = .ok (.goto 4, 3) := by decide +kernel
theorem dX12_readDoor_89 : decode cX12_readDoor 89 = .ok (.iconst (-1), 1) := by decide +kernel
theorem dX12_readDoor_90 : decode cX12_readDoor 90 = .ok (.istore 5, 2) := by decide +kernel
theorem dX12_readDoor_92 : decode cX12_readDoor 92 = .ok (.aload_n 0, 1) := by decide +kernel
theorem dX12_readDoor_93 : decode cX12_readDoor 93 = .ok (.getfield 9, 3) := by decide +kernel
theorem dX12_readDoor_96 : decode cX12_readDoor 96 = .ok (.aload_n 0, 1) := by decide +kernel
theorem dX12_readDoor_97 : decode cX12_readDoor 97 = .ok (.getfield 153, 3) := by decide +kernel
theorem dX12_readDoor_100 : decode cX12_readDoor 100 = .ok (.iload_n 1, 1) := by decide +kernel
theorem dX12_readDoor_101 : decode cX12_readDoor 101 = .ok (.iastore, 1) := by decide +kernel
theorem dX12_readDoor_102 : decode cX12_readDoor 102 = .ok (.aload_n 0, 1) := by decide +kernel
theorem dX12_readDoor_103 : decode cX12_readDoor 103 = .ok (.getfield 13, 3) := by decide +kernel
theorem dX12_readDoor_106 : decode cX12_readDoor 106 = .ok (.aload_n 0, 1) := by decide +kernel
theorem dX12_readDoor_107 : decode cX12_readDoor 107 = .ok (.getfield 153, 3) := by decide +kernel
theorem dX12_readDoor_110 : decode cX12_readDoor 110 = .ok (.iload_n 3, 1) := by decide +kernel
theorem dX12_readDoor_111 : decode cX12_readDoor 111 = .ok (.iastore, 1) := by decide +kernel
theorem dX12_readDoor_112 : decode cX12_readDoor 112 = .ok (.aload_n 0, 1) := by decide +kernel
theorem dX12_readDoor_113 : decode cX12_readDoor 113 = .ok (.getfield 16, 3) := by decide +kernel
theorem dX12_readDoor_116 : decode cX12_readDoor 116 = .ok (.aload_n 0, 1) := by decide +kernel
theorem dX12_readDoor_117 : decode cX12_readDoor 117 = .ok (.getfield 153, 3) := by decide +kernel
theorem dX12_readDoor_120 : decode cX12_readDoor 120 = .ok (.iload_n 2, 1) := by decide +kernel
theorem dX12_readDoor_121 : decode cX12_readDoor 121 = .ok (.bastore, 1) := by decide +kernel
theorem dX12_readDoor_122 : decode cX12_readDoor 122 = .ok (.aload_n 0, 1) := by decide +kernel
theorem dX12_readDoor_123 : decode cX12_readDoor 123 = .ok (.getfield 20, 3) := by decide +kernel
theorem dX12_readDoor_126 : decode cX12_readDoor 126 = .ok (.aload_n 0, 1) := by decide +kernel
theorem dX12_readDoor_127 : decode cX12_readDoor 127 = .ok (.getfield 153, 3) := by decide +kernel
theorem dX12_readDoor_130 : decode cX12_readDoor 130 = .ok (.iload 4, 2) := by decide +kernel
theorem dX12_readDoor_132 : decode cX12_readDoor 132 = .ok (.iastore, 1) := by decide +kernel
theorem dX12_readDoor_133 : decode cX12_readDoor 133 = .ok (.aload_n 0, 1) := by decide +kernel
theorem dX12_readDoor_134 : decode cX12_readDoor 134 = .ok (.getfield 23, 3) := by decide +kernel
theorem dX12_readDoor_137 : decode cX12_readDoor 137 = .ok (.aload_n 0, 1) := by decide +kernel
theorem dX12_readDoor_138 : decode cX12_readDoor 138 = .ok (.getfield 153, 3) := by decide +kernel
theorem dX12_readDoor_141 : decode cX12_readDoor 141 = .ok (.iload 4, 2) := by decide +kernel
theorem dX12_readDoor_143 : decode cX12_readDoor 143 = .ok (.iastore, 1) := by decide +kernel
theorem dX12_readDoor_144 : decode cX12_readDoor 144 = .ok (.aload_n 0, 1) := by decide +kernel
theorem dX12_readDoor_145 : decode cX12_readDoor 145 = .ok (.getfield 26, 3) := by decide +kernel
theorem dX12_readDoor_148 : decode cX12_readDoor 148 = .ok (.aload_n 0, 1) := by decide +kernel
theorem dX12_readDoor_149 : decode cX12_readDoor 149 = .ok (.getfield 153, 3) := by decide +kernel
theorem dX12_readDoor_152 : decode cX12_readDoor 152 = .ok (.iload 5, 2) := by decide +kernel
theorem dX12_readDoor_154 : decode cX12_readDoor 154 = .ok (.iastore, 1) := by decide +kernel
theorem dX12_readDoor_155 : decode cX12_readDoor 155 = .ok (.aload_n 0, 1) := by decide +kernel
theorem dX12_readDoor_156 : decode cX12_readDoor 156 = .ok (.dup, 1) := by decide +kernel
theorem dX12_readDoor_157 : decode cX12_readDoor 157 = .ok (.getfield 153, 3) := by decide +kernel
theorem dX12_readDoor_160 : decode cX12_readDoor 160 = .ok (.iconst 1, 1) := by decide +kernel
theorem dX12_readDoor_161 : decode cX12_readDoor 161 = .ok (.iadd, 1) := by decide +kernel
theorem dX12_readDoor_162 : decode cX12_readDoor 162 = .ok (.putfield 153, 3) := by decide +kernel
theorem dX12_readDoor_165 : decode cX12_readDoor 165 = .ok (.return_, 1) := by decide +kernel
set_option maxRecDepth 100000 in
set_option maxHeartbeats 4000000 in
theorem B_X12_readDoor_0 {κ : Nat → List Value → List Value → m2M → Prop} {D : Nat} {Q : Option Value → m2M → Prop} (h : m2_RL κ cX12_readDoor RX12 6 (D + 1) none Q)  {μ : m2M} (k : ∃ Q3 : Option Value → m2M → Prop, m2_MT D yX12_number cX12_number 5 (some .int) [.ref kM, .int 2, .int 11] μ Q3 ∧ ∀ (y1 : Int32) (μ2 : m2M), Q3 (some (.int y1)) μ2 → (∃ Q8 : Option Value → m2M → Prop, m2_MT D yX12_passes cX12_passes 2 (some .boolean) [.ref kM, .int 62] μ2 Q8 ∧ ∀ (y6 : Int32) (μ7 : m2M), Q8 (some (.int y6)) μ7 → ((¬ y6 = 0 → κ 25 [.ref kM, .int y1, .int y6, .null, .null, .null] [] μ7) ∧ (y6 = 0 → ∃ Q14 : Option Value → m2M → Prop, m2_MT D yX12_need cX12_need 2 none [.ref kM, .int 45] μ7 Q14 ∧ ∀ (μ13 : m2M), Q14 none μ13 → (κ 25 [.ref kM, .int y1, .int y6, .null, .null, .null] [] μ13))))) : κ 0 [.ref kM, .null, .null, .null, .null, .null] [] μ := by
  have hB := h.b
  refine m2_aload_n hB dX12_readDoor_0 rfl ?_
  refine m2_iconst hB dX12_readDoor_1 (v := 2) (by decide) ?_
  refine m2_bipush hB dX12_readDoor_2 (v := 11) (by decide) ?_
  obtain ⟨Q3, hM4, k⟩ := k
  refine m2_invi hB (as := [.int 2, .int 11]) dX12_readDoor_4 mv_X12_204 rfl sh_kM rfl (Nat.le_of_ble_eq_true rfl) rfl hM4 (fun y1 μ2 hq5 => ?_)
  replace k := k y1 μ2 hq5
  refine m2_istore_n hB (ls' := [.ref kM, .int y1, .null, .null, .null, .null]) dX12_readDoor_7 rfl (by decide) rfl ?_
  refine m2_aload_n hB dX12_readDoor_8 rfl ?_
  refine m2_bipush hB dX12_readDoor_9 (v := 62) (by decide) ?_
  obtain ⟨Q8, hM9, k⟩ := k
  refine m2_invz hB (as := [.int 62]) dX12_readDoor_11 mv_X12_185 rfl sh_kM rfl (Nat.le_of_ble_eq_true rfl) rfl hM9 (fun y6 μ7 hq10 => ?_)
  replace k := k y6 μ7 hq10
  refine m2_istore_n hB (ls' := [.ref kM, .int y1, .int y6, .null, .null, .null]) dX12_readDoor_14 rfl (by decide) rfl ?_
  refine m2_iload_n hB dX12_readDoor_15 rfl ?_
  refine m2_if_ne hB dX12_readDoor_16 (tgt := 25) (by decide) (fun q11 : ¬ y6 = 0 => ?_) (fun q11 : y6 = 0 => ?_)
  · replace k := k.1 q11
    exact k
  · replace k := k.2 q11
    refine m2_aload_n hB dX12_readDoor_19 rfl ?_
    refine m2_bipush hB dX12_readDoor_20 (v := 45) (by decide) ?_
    obtain ⟨Q14, hM15, k⟩ := k
    refine m2_invv hB (as := [.int 45]) dX12_readDoor_22 mv_X12_208 rfl sh_kM rfl (Nat.le_of_ble_eq_true rfl) rfl hM15 (fun μ13 hq16 => ?_)
    replace k := k μ13 hq16
    exact k
set_option maxRecDepth 100000 in
set_option maxHeartbeats 4000000 in
theorem B_X12_readDoor_25 {κ : Nat → List Value → List Value → m2M → Prop} {D : Nat} {Q : Option Value → m2M → Prop} (h : m2_RL κ cX12_readDoor RX12 6 (D + 1) none Q) (hD : 0 ≤ D) {v1 : Int32} {v2 : Int32} {μ : m2M} (k : ∃ Q3 : Option Value → m2M → Prop, m2_MT D yX12_number cX12_number 5 (some .int) [.ref kM, .int 2, .int 11] μ Q3 ∧ ∀ (y1 : Int32) (μ2 : m2M), Q3 (some (.int y1)) μ2 → (((fX12_fine μ2) = 1 → (¬ v1 = y1 → κ 55 [.ref kM, .int v1, .int v2, .int y1, .null, .null] [] μ2) ∧ (v1 = y1 → ∃ Q13 : Option Value → m2M → Prop, m2_MT D yX12_fault cX12_fault 2 none [.ref kM, .int ((μ2.1 kM 26) - 1)] μ2 Q13 ∧ ∀ (μ12 : m2M), Q13 none μ12 → (κ 55 [.ref kM, .int v1, .int v2, .int y1, .null, .null] [] μ12))) ∧ (¬ (fX12_fine μ2) = 1 → κ 55 [.ref kM, .int v1, .int v2, .int y1, .null, .null] [] μ2))) : κ 25 [.ref kM, .int v1, .int v2, .null, .null, .null] [] μ := by
  have hB := h.b
  refine m2_aload_n hB dX12_readDoor_25 rfl ?_
  refine m2_iconst hB dX12_readDoor_26 (v := 2) (by decide) ?_
  refine m2_bipush hB dX12_readDoor_27 (v := 11) (by decide) ?_
  obtain ⟨Q3, hM4, k⟩ := k
  refine m2_invi hB (as := [.int 2, .int 11]) dX12_readDoor_29 mv_X12_204 rfl sh_kM rfl (Nat.le_of_ble_eq_true rfl) rfl hM4 (fun y1 μ2 hq5 => ?_)
  replace k := k y1 μ2 hq5
  refine m2_istore_n hB (ls' := [.ref kM, .int v1, .int v2, .int y1, .null, .null]) dX12_readDoor_32 rfl (by decide) rfl ?_
  refine m2_aload_n hB dX12_readDoor_33 rfl ?_
  refine m2_invz hB (as := []) dX12_readDoor_34 mv_X12_177 rfl sh_kM rfl (Nat.le_of_ble_eq_true rfl) rfl (P_X12_fine (by omega)  _ ) (fun y6 μ7 hq8 => ?_)
  obtain ⟨⟨⟩, hq8⟩ := hq8
  subst μ7
  show κ 37 [.ref kM, .int v1, .int v2, .int y1, .null, .null] [.int (if (fX12_fine μ2) = 1 then 1 else 0 : Int32)] μ2
  by_cases q9 : (fX12_fine μ2) = 1
  · rw [if_pos q9]
    replace k := k.1 q9
    refine m2_if_eq hB dX12_readDoor_37 (tgt := 55) (by decide) (fun q => absurd q (by decide)) (fun _ => ?_)
    refine m2_iload_n hB dX12_readDoor_40 rfl ?_
    refine m2_iload_n hB dX12_readDoor_41 rfl ?_
    refine m2_icmp_ne hB dX12_readDoor_42 (tgt := 55) (by decide) (fun q10 : ¬ v1 = y1 => ?_) (fun q10 : v1 = y1 => ?_)
    · replace k := k.1 q10
      exact k
    · replace k := k.2 q10
      refine m2_aload_n hB dX12_readDoor_45 rfl ?_
      refine m2_aload_n hB dX12_readDoor_46 rfl ?_
      refine m2_getI hB dX12_readDoor_47 fl_X12_171 sh_kM rfl ?_
      refine m2_iconst hB dX12_readDoor_50 (v := 1) (by decide) ?_
      refine m2_isub hB dX12_readDoor_51 ?_
      obtain ⟨Q13, hM14, k⟩ := k
      refine m2_invv hB (as := [.int ((μ2.1 kM 26) - 1)]) dX12_readDoor_52 mv_X12_189 rfl sh_kM rfl (Nat.le_of_ble_eq_true rfl) rfl hM14 (fun μ12 hq15 => ?_)
      replace k := k μ12 hq15
      exact k
  · rw [if_neg q9]
    replace k := k.2 q9
    refine m2_if_eq hB dX12_readDoor_37 (tgt := 55) (by decide) (fun _ => ?_) (fun q => absurd q (by decide))
    exact k
set_option maxRecDepth 100000 in
set_option maxHeartbeats 4000000 in
theorem B_X12_readDoor_55 {κ : Nat → List Value → List Value → m2M → Prop} {D : Nat} {Q : Option Value → m2M → Prop} (h : m2_RL κ cX12_readDoor RX12 6 (D + 1) none Q) {v1 : Int32} {v2 : Int32} {v3 : Int32} {μ : m2M} (k : ∃ Q3 : Option Value → m2M → Prop, m2_MT D yX12_need cX12_need 2 none [.ref kM, .int 44] μ Q3 ∧ ∀ (μ2 : m2M), Q3 none μ2 → (∃ Q8 : Option Value → m2M → Prop, m2_MT D yX12_number cX12_number 5 (some .int) [.ref kM, .int 2, .int 60] μ2 Q8 ∧ ∀ (y6 : Int32) (μ7 : m2M), Q8 (some (.int y6)) μ7 → (∃ Q13 : Option Value → m2M → Prop, m2_MT D yX12_passes cX12_passes 2 (some .boolean) [.ref kM, .int 64] μ7 Q13 ∧ ∀ (y11 : Int32) (μ12 : m2M), Q13 (some (.int y11)) μ12 → ((y11 = 0 → (vp_in (μ12.1 kM 0) 20) ∧ (Q none (m2_si (m2_si (m2_si (m2_si (m2_si (m2_si (m2_si μ12 kM_doorA ((μ12.1 kM 0)).toNatClampNeg v1) kM_doorB ((μ12.1 kM 0)).toNatClampNeg v3) kM_isOneWay ((μ12.1 kM 0)).toNatClampNeg (vp_nar .boolean v2)) kM_lets ((μ12.1 kM 0)).toNatClampNeg y6) kM_left ((μ12.1 kM 0)).toNatClampNeg y6) kM_atNoon ((μ12.1 kM 0)).toNatClampNeg (-1)) kM 0 ((μ12.1 kM 0) + 1)))) ∧ (¬ y11 = 0 → ∃ Q25 : Option Value → m2M → Prop, m2_MT D yX12_number cX12_number 5 (some .int) [.ref kM, .int 2, .int 60] μ12 Q25 ∧ ∀ (y23 : Int32) (μ24 : m2M), Q25 (some (.int y23)) μ24 → ((vp_in (μ24.1 kM 0) 20) ∧ (Q none (m2_si (m2_si (m2_si (m2_si (m2_si (m2_si (m2_si μ24 kM_doorA ((μ24.1 kM 0)).toNatClampNeg v1) kM_doorB ((μ24.1 kM 0)).toNatClampNeg v3) kM_isOneWay ((μ24.1 kM 0)).toNatClampNeg (vp_nar .boolean v2)) kM_lets ((μ24.1 kM 0)).toNatClampNeg y6) kM_left ((μ24.1 kM 0)).toNatClampNeg y6) kM_atNoon ((μ24.1 kM 0)).toNatClampNeg y23) kM 0 ((μ24.1 kM 0) + 1))))))))) : κ 55 [.ref kM, .int v1, .int v2, .int v3, .null, .null] [] μ := by
  have hB := h.b
  refine m2_aload_n hB dX12_readDoor_55 rfl ?_
  refine m2_bipush hB dX12_readDoor_56 (v := 44) (by decide) ?_
  obtain ⟨Q3, hM4, k⟩ := k
  refine m2_invv hB (as := [.int 44]) dX12_readDoor_58 mv_X12_208 rfl sh_kM rfl (Nat.le_of_ble_eq_true rfl) rfl hM4 (fun μ2 hq5 => ?_)
  replace k := k μ2 hq5
  refine m2_aload_n hB dX12_readDoor_61 rfl ?_
  refine m2_iconst hB dX12_readDoor_62 (v := 2) (by decide) ?_
  refine m2_bipush hB dX12_readDoor_63 (v := 60) (by decide) ?_
  obtain ⟨Q8, hM9, k⟩ := k
  refine m2_invi hB (as := [.int 2, .int 60]) dX12_readDoor_65 mv_X12_204 rfl sh_kM rfl (Nat.le_of_ble_eq_true rfl) rfl hM9 (fun y6 μ7 hq10 => ?_)
  replace k := k y6 μ7 hq10
  refine m2_istore hB (ls' := [.ref kM, .int v1, .int v2, .int v3, .int y6, .null]) dX12_readDoor_68 (by decide) rfl ?_
  refine m2_aload_n hB dX12_readDoor_70 rfl ?_
  refine m2_bipush hB dX12_readDoor_71 (v := 64) (by decide) ?_
  obtain ⟨Q13, hM14, k⟩ := k
  refine m2_invz hB (as := [.int 64]) dX12_readDoor_73 mv_X12_185 rfl sh_kM rfl (Nat.le_of_ble_eq_true rfl) rfl hM14 (fun y11 μ12 hq15 => ?_)
  replace k := k y11 μ12 hq15
  refine m2_if_eq hB dX12_readDoor_76 (tgt := 89) (by decide) (fun q16 : y11 = 0 => ?_) (fun q16 : ¬ y11 = 0 => ?_)
  · replace k := k.1 q16
    refine m2_iconst hB dX12_readDoor_89 (v := (-1)) (by decide) ?_
    refine m2_istore hB (ls' := [.ref kM, .int v1, .int v2, .int v3, .int y6, .int (-1)]) dX12_readDoor_90 (by decide) rfl ?_
    refine m2_aload_n hB dX12_readDoor_92 rfl ?_
    refine m2_getR hB dX12_readDoor_93 fl_X12_9 sh_kM (c1 := kM_doorA) rfl ?_
    refine m2_aload_n hB dX12_readDoor_96 rfl ?_
    refine m2_getI hB dX12_readDoor_97 fl_X12_153 sh_kM rfl ?_
    refine m2_iload_n hB dX12_readDoor_100 rfl ?_
    obtain ⟨hi17, k⟩ := k
    refine m2_iast hB dX12_readDoor_101 sh_kM_doorA hi17 ?_
    refine m2_aload_n hB dX12_readDoor_102 rfl ?_
    refine m2_getR hB dX12_readDoor_103 fl_X12_13 sh_kM (c1 := kM_doorB) rfl ?_
    refine m2_aload_n hB dX12_readDoor_106 rfl ?_
    refine m2_getI hB dX12_readDoor_107 fl_X12_153 sh_kM rfl ?_
    refine m2_iload_n hB dX12_readDoor_110 rfl ?_
    have hi18 := hi17
    refine m2_iast hB dX12_readDoor_111 sh_kM_doorB hi18 ?_
    refine m2_aload_n hB dX12_readDoor_112 rfl ?_
    refine m2_getR hB dX12_readDoor_113 fl_X12_16 sh_kM (c1 := kM_isOneWay) rfl ?_
    refine m2_aload_n hB dX12_readDoor_116 rfl ?_
    refine m2_getI hB dX12_readDoor_117 fl_X12_153 sh_kM rfl ?_
    refine m2_iload_n hB dX12_readDoor_120 rfl ?_
    have hi19 := hi17
    refine m2_zast hB dX12_readDoor_121 sh_kM_isOneWay hi19 ?_
    refine m2_aload_n hB dX12_readDoor_122 rfl ?_
    refine m2_getR hB dX12_readDoor_123 fl_X12_20 sh_kM (c1 := kM_lets) rfl ?_
    refine m2_aload_n hB dX12_readDoor_126 rfl ?_
    refine m2_getI hB dX12_readDoor_127 fl_X12_153 sh_kM rfl ?_
    refine m2_iload hB dX12_readDoor_130 rfl ?_
    have hi20 := hi17
    refine m2_iast hB dX12_readDoor_132 sh_kM_lets hi20 ?_
    refine m2_aload_n hB dX12_readDoor_133 rfl ?_
    refine m2_getR hB dX12_readDoor_134 fl_X12_23 sh_kM (c1 := kM_left) rfl ?_
    refine m2_aload_n hB dX12_readDoor_137 rfl ?_
    refine m2_getI hB dX12_readDoor_138 fl_X12_153 sh_kM rfl ?_
    refine m2_iload hB dX12_readDoor_141 rfl ?_
    have hi21 := hi17
    refine m2_iast hB dX12_readDoor_143 sh_kM_left hi21 ?_
    refine m2_aload_n hB dX12_readDoor_144 rfl ?_
    refine m2_getR hB dX12_readDoor_145 fl_X12_26 sh_kM (c1 := kM_atNoon) rfl ?_
    refine m2_aload_n hB dX12_readDoor_148 rfl ?_
    refine m2_getI hB dX12_readDoor_149 fl_X12_153 sh_kM rfl ?_
    refine m2_iload hB dX12_readDoor_152 rfl ?_
    have hi22 := hi17
    refine m2_iast hB dX12_readDoor_154 sh_kM_atNoon hi22 ?_
    refine m2_aload_n hB dX12_readDoor_155 rfl ?_
    refine m2_dup hB dX12_readDoor_156 rfl ?_
    refine m2_getI hB dX12_readDoor_157 fl_X12_153 sh_kM rfl ?_
    refine m2_iconst hB dX12_readDoor_160 (v := 1) (by decide) ?_
    refine m2_iadd hB dX12_readDoor_161 ?_
    refine m2_putI hB dX12_readDoor_162 fl_X12_153 sh_kM rfl ?_
    exact m2_vret h dX12_readDoor_165 k
  · replace k := k.2 q16
    refine m2_aload_n hB dX12_readDoor_79 rfl ?_
    refine m2_iconst hB dX12_readDoor_80 (v := 2) (by decide) ?_
    refine m2_bipush hB dX12_readDoor_81 (v := 60) (by decide) ?_
    obtain ⟨Q25, hM26, k⟩ := k
    refine m2_invi hB (as := [.int 2, .int 60]) dX12_readDoor_83 mv_X12_204 rfl sh_kM rfl (Nat.le_of_ble_eq_true rfl) rfl hM26 (fun y23 μ24 hq27 => ?_)
    replace k := k y23 μ24 hq27
    refine m2_goto hB dX12_readDoor_86 (tgt := 90) (by decide) ?_
    refine m2_istore hB (ls' := [.ref kM, .int v1, .int v2, .int v3, .int y6, .int y23]) dX12_readDoor_90 (by decide) rfl ?_
    refine m2_aload_n hB dX12_readDoor_92 rfl ?_
    refine m2_getR hB dX12_readDoor_93 fl_X12_9 sh_kM (c1 := kM_doorA) rfl ?_
    refine m2_aload_n hB dX12_readDoor_96 rfl ?_
    refine m2_getI hB dX12_readDoor_97 fl_X12_153 sh_kM rfl ?_
    refine m2_iload_n hB dX12_readDoor_100 rfl ?_
    obtain ⟨hi28, k⟩ := k
    refine m2_iast hB dX12_readDoor_101 sh_kM_doorA hi28 ?_
    refine m2_aload_n hB dX12_readDoor_102 rfl ?_
    refine m2_getR hB dX12_readDoor_103 fl_X12_13 sh_kM (c1 := kM_doorB) rfl ?_
    refine m2_aload_n hB dX12_readDoor_106 rfl ?_
    refine m2_getI hB dX12_readDoor_107 fl_X12_153 sh_kM rfl ?_
    refine m2_iload_n hB dX12_readDoor_110 rfl ?_
    have hi29 := hi28
    refine m2_iast hB dX12_readDoor_111 sh_kM_doorB hi29 ?_
    refine m2_aload_n hB dX12_readDoor_112 rfl ?_
    refine m2_getR hB dX12_readDoor_113 fl_X12_16 sh_kM (c1 := kM_isOneWay) rfl ?_
    refine m2_aload_n hB dX12_readDoor_116 rfl ?_
    refine m2_getI hB dX12_readDoor_117 fl_X12_153 sh_kM rfl ?_
    refine m2_iload_n hB dX12_readDoor_120 rfl ?_
    have hi30 := hi28
    refine m2_zast hB dX12_readDoor_121 sh_kM_isOneWay hi30 ?_
    refine m2_aload_n hB dX12_readDoor_122 rfl ?_
    refine m2_getR hB dX12_readDoor_123 fl_X12_20 sh_kM (c1 := kM_lets) rfl ?_
    refine m2_aload_n hB dX12_readDoor_126 rfl ?_
    refine m2_getI hB dX12_readDoor_127 fl_X12_153 sh_kM rfl ?_
    refine m2_iload hB dX12_readDoor_130 rfl ?_
    have hi31 := hi28
    refine m2_iast hB dX12_readDoor_132 sh_kM_lets hi31 ?_
    refine m2_aload_n hB dX12_readDoor_133 rfl ?_
    refine m2_getR hB dX12_readDoor_134 fl_X12_23 sh_kM (c1 := kM_left) rfl ?_
    refine m2_aload_n hB dX12_readDoor_137 rfl ?_
    refine m2_getI hB dX12_readDoor_138 fl_X12_153 sh_kM rfl ?_
    refine m2_iload hB dX12_readDoor_141 rfl ?_
    have hi32 := hi28
    refine m2_iast hB dX12_readDoor_143 sh_kM_left hi32 ?_
    refine m2_aload_n hB dX12_readDoor_144 rfl ?_
    refine m2_getR hB dX12_readDoor_145 fl_X12_26 sh_kM (c1 := kM_atNoon) rfl ?_
    refine m2_aload_n hB dX12_readDoor_148 rfl ?_
    refine m2_getI hB dX12_readDoor_149 fl_X12_153 sh_kM rfl ?_
    refine m2_iload hB dX12_readDoor_152 rfl ?_
    have hi33 := hi28
    refine m2_iast hB dX12_readDoor_154 sh_kM_atNoon hi33 ?_
    refine m2_aload_n hB dX12_readDoor_155 rfl ?_
    refine m2_dup hB dX12_readDoor_156 rfl ?_
    refine m2_getI hB dX12_readDoor_157 fl_X12_153 sh_kM rfl ?_
    refine m2_iconst hB dX12_readDoor_160 (v := 1) (by decide) ?_
    refine m2_iadd hB dX12_readDoor_161 ?_
    refine m2_putI hB dX12_readDoor_162 fl_X12_153 sh_kM rfl ?_
    exact m2_vret h dX12_readDoor_165 k
theorem dX12_readOne_0 : decode cX12_readOne 0 = .ok (.aload_n 0, 1) := by decide +kernel
theorem dX12_readOne_1 : decode cX12_readOne 1 = .ok (.iconst 2, 1) := by decide +kernel
theorem dX12_readOne_2 : decode cX12_readOne 2 = .ok (.bipush 11, 2) := by decide +kernel
theorem dX12_readOne_4 : decode cX12_readOne 4 = .ok (.invokevirtual 204, 3) := by decide +kernel
theorem dX12_readOne_7 : decode cX12_readOne 7 = .ok (.istore_n 2, 1) := by decide +kernel
theorem dX12_readOne_8 : decode cX12_readOne 8 = .ok (.aload_n 0, 1) := by decide +kernel
theorem dX12_readOne_9 : decode cX12_readOne 9 = .ok (.bipush 44, 2) := by decide +kernel
theorem dX12_readOne_11 : decode cX12_readOne 11 = .ok (.invokevirtual 208, 3) := by decide +kernel
theorem dX12_readOne_14 : decode cX12_readOne 14 = .ok (.aload_n 0, 1) := by decide +kernel
theorem dX12_readOne_15 : decode cX12_readOne 15 = .ok (.iconst 2, 1) := by decide +kernel
theorem dX12_readOne_16 : decode cX12_readOne 16 = .ok (.bipush 99, 2) := by decide +kernel
theorem dX12_readOne_18 : decode cX12_readOne 18 = .ok (.invokevirtual 204, 3) := by decide +kernel
theorem dX12_readOne_21 : decode cX12_readOne 21 = .ok (.istore_n 3, 1) := by decide +kernel
theorem dX12_readOne_22 : decode cX12_readOne 22 = .ok (.aload_n 0, 1) := by decide +kernel
theorem dX12_readOne_23 : decode cX12_readOne 23 = .ok (.bipush 62, 2) := by decide +kernel
theorem dX12_readOne_25 : decode cX12_readOne 25 = .ok (.invokevirtual 185, 3) := by decide +kernel
theorem dX12_readOne_28 : decode cX12_readOne 28 = .ok (.ifCond .eq 13, 3) := by decide +kernel
theorem dX12_readOne_31 : decode cX12_readOne 31 = .ok (.aload_n 0, 1) := by decide +kernel
theorem dX12_readOne_32 : decode cX12_readOne 32 = .ok (.iconst 2, 1) := by decide +kernel
theorem dX12_readOne_33 : decode cX12_readOne 33 = .ok (.bipush 11, 2) := by decide +kernel
theorem dX12_readOne_35 : decode cX12_readOne 35 = .ok (.invokevirtual 204, 3) := by decide +kernel
theorem dX12_readOne_38 : decode cX12_readOne 38 = .ok (.goto 4, 3) := by decide +kernel
theorem dX12_readOne_41 : decode cX12_readOne 41 = .ok (.iconst (-1), 1) := by decide +kernel
theorem dX12_readOne_42 : decode cX12_readOne 42 = .ok (.istore 4, 2) := by decide +kernel
theorem dX12_readOne_44 : decode cX12_readOne 44 = .ok (.aload_n 0, 1) := by decide +kernel
theorem dX12_readOne_45 : decode cX12_readOne 45 = .ok (.getfield 29, 3) := by decide +kernel
theorem dX12_readOne_48 : decode cX12_readOne 48 = .ok (.aload_n 0, 1) := by decide +kernel
theorem dX12_readOne_49 : decode cX12_readOne 49 = .ok (.getfield 156, 3) := by decide +kernel
theorem dX12_readOne_52 : decode cX12_readOne 52 = .ok (.iload_n 2, 1) := by decide +kernel
theorem dX12_readOne_53 : decode cX12_readOne 53 = .ok (.iastore, 1) := by decide +kernel
theorem dX12_readOne_54 : decode cX12_readOne 54 = .ok (.aload_n 0, 1) := by decide +kernel
theorem dX12_readOne_55 : decode cX12_readOne 55 = .ok (.getfield 32, 3) := by decide +kernel
theorem dX12_readOne_58 : decode cX12_readOne 58 = .ok (.aload_n 0, 1) := by decide +kernel
theorem dX12_readOne_59 : decode cX12_readOne 59 = .ok (.getfield 156, 3) := by decide +kernel
theorem dX12_readOne_62 : decode cX12_readOne 62 = .ok (.iload_n 2, 1) := by decide +kernel
theorem dX12_readOne_63 : decode cX12_readOne 63 = .ok (.iastore, 1) := by decide +kernel
theorem dX12_readOne_64 : decode cX12_readOne 64 = .ok (.aload_n 0, 1) := by decide +kernel
theorem dX12_readOne_65 : decode cX12_readOne 65 = .ok (.getfield 35, 3) := by decide +kernel
theorem dX12_readOne_68 : decode cX12_readOne 68 = .ok (.aload_n 0, 1) := by decide +kernel
theorem dX12_readOne_69 : decode cX12_readOne 69 = .ok (.getfield 156, 3) := by decide +kernel
theorem dX12_readOne_72 : decode cX12_readOne 72 = .ok (.iload_n 1, 1) := by decide +kernel
theorem dX12_readOne_73 : decode cX12_readOne 73 = .ok (.bastore, 1) := by decide +kernel
theorem dX12_readOne_74 : decode cX12_readOne 74 = .ok (.aload_n 0, 1) := by decide +kernel
theorem dX12_readOne_75 : decode cX12_readOne 75 = .ok (.getfield 38, 3) := by decide +kernel
theorem dX12_readOne_78 : decode cX12_readOne 78 = .ok (.aload_n 0, 1) := by decide +kernel
theorem dX12_readOne_79 : decode cX12_readOne 79 = .ok (.getfield 156, 3) := by decide +kernel
theorem dX12_readOne_82 : decode cX12_readOne 82 = .ok (.iload_n 3, 1) := by decide +kernel
theorem dX12_readOne_83 : decode cX12_readOne 83 = .ok (.iastore, 1) := by decide +kernel
theorem dX12_readOne_84 : decode cX12_readOne 84 = .ok (.aload_n 0, 1) := by decide +kernel
theorem dX12_readOne_85 : decode cX12_readOne 85 = .ok (.getfield 41, 3) := by decide +kernel
theorem dX12_readOne_88 : decode cX12_readOne 88 = .ok (.aload_n 0, 1) := by decide +kernel
theorem dX12_readOne_89 : decode cX12_readOne 89 = .ok (.getfield 156, 3) := by decide +kernel
theorem dX12_readOne_92 : decode cX12_readOne 92 = .ok (.iload 4, 2) := by decide +kernel
theorem dX12_readOne_94 : decode cX12_readOne 94 = .ok (.iastore, 1) := by decide +kernel
theorem dX12_readOne_95 : decode cX12_readOne 95 = .ok (.aload_n 0, 1) := by decide +kernel
theorem dX12_readOne_96 : decode cX12_readOne 96 = .ok (.getfield 44, 3) := by decide +kernel
theorem dX12_readOne_99 : decode cX12_readOne 99 = .ok (.aload_n 0, 1) := by decide +kernel
theorem dX12_readOne_100 : decode cX12_readOne 100 = .ok (.getfield 156, 3) := by decide +kernel
theorem dX12_readOne_103 : decode cX12_readOne 103 = .ok (.iload 4, 2) := by decide +kernel
theorem dX12_readOne_105 : decode cX12_readOne 105 = .ok (.iconst (-1), 1) := by decide +kernel
theorem dX12_readOne_106 : decode cX12_readOne 106 = .ok (.if_icmp .eq 16, 3) := by decide +kernel
theorem dX12_readOne_109 : decode cX12_readOne 109 = .ok (.aload_n 0, 1) := by decide +kernel
theorem dX12_readOne_110 : decode cX12_readOne 110 = .ok (.bipush 60, 2) := by decide +kernel
theorem dX12_readOne_112 : decode cX12_readOne 112 = .ok (.invokevirtual 185, 3) := by decide +kernel
theorem dX12_readOne_115 : decode cX12_readOne 115 = .ok (.ifCond .eq 7, 3) := by decide +kernel
theorem dX12_readOne_118 : decode cX12_readOne 118 = .ok (.iconst 1, 1) := by decide +kernel
theorem dX12_readOne_119 : decode cX12_readOne 119 = .ok (.goto 4, 3) := by decide +kernel
theorem dX12_readOne_122 : decode cX12_readOne 122 = .ok (.iconst 0, 1) := by decide +kernel
theorem dX12_readOne_123 : decode cX12_readOne 123 = .ok (.bastore, 1) := by decide +kernel
theorem dX12_readOne_124 : decode cX12_readOne 124 = .ok (.aload_n 0, 1) := by decide +kernel
theorem dX12_readOne_125 : decode cX12_readOne 125 = .ok (.getfield 47, 3) := by decide +kernel
theorem dX12_readOne_128 : decode cX12_readOne 128 = .ok (.aload_n 0, 1) := by decide +kernel
theorem dX12_readOne_129 : decode cX12_readOne 129 = .ok (.getfield 156, 3) := by decide +kernel
theorem dX12_readOne_132 : decode cX12_readOne 132 = .ok (.iconst 0, 1) := by decide +kernel
theorem dX12_readOne_133 : decode cX12_readOne 133 = .ok (.bastore, 1) := by decide +kernel
theorem dX12_readOne_134 : decode cX12_readOne 134 = .ok (.aload_n 0, 1) := by decide +kernel
theorem dX12_readOne_135 : decode cX12_readOne 135 = .ok (.getfield 50, 3) := by decide +kernel
theorem dX12_readOne_138 : decode cX12_readOne 138 = .ok (.aload_n 0, 1) := by decide +kernel
theorem dX12_readOne_139 : decode cX12_readOne 139 = .ok (.getfield 156, 3) := by decide +kernel
theorem dX12_readOne_142 : decode cX12_readOne 142 = .ok (.iconst 0, 1) := by decide +kernel
theorem dX12_readOne_143 : decode cX12_readOne 143 = .ok (.bastore, 1) := by decide +kernel
theorem dX12_readOne_144 : decode cX12_readOne 144 = .ok (.aload_n 0, 1) := by decide +kernel
theorem dX12_readOne_145 : decode cX12_readOne 145 = .ok (.aload_n 0, 1) := by decide +kernel
theorem dX12_readOne_146 : decode cX12_readOne 146 = .ok (.getfield 156, 3) := by decide +kernel
theorem dX12_readOne_149 : decode cX12_readOne 149 = .ok (.invokevirtual 212, 3) := by decide +kernel
theorem dX12_readOne_152 : decode cX12_readOne 152 = .ok (.aload_n 0, 1) := by decide +kernel
theorem dX12_readOne_153 : decode cX12_readOne 153 = .ok (.dup, 1) := by decide +kernel
theorem dX12_readOne_154 : decode cX12_readOne 154 = .ok (.getfield 156, 3) := by decide +kernel
theorem dX12_readOne_157 : decode cX12_readOne 157 = .ok (.iconst 1, 1) := by decide +kernel
theorem dX12_readOne_158 : decode cX12_readOne 158 = .ok (.iadd, 1) := by decide +kernel
theorem dX12_readOne_159 : decode cX12_readOne 159 = .ok (.putfield 156, 3) := by decide +kernel
theorem dX12_readOne_162 : decode cX12_readOne 162 = .ok (.return_, 1) := by decide +kernel
set_option maxRecDepth 100000 in
set_option maxHeartbeats 4000000 in
theorem B_X12_readOne_0 {κ : Nat → List Value → List Value → m2M → Prop} {D : Nat} {Q : Option Value → m2M → Prop} (h : m2_RL κ cX12_readOne RX12 5 (D + 1) none Q) {x1 : Int32} {μ : m2M} (k : ∃ Q3 : Option Value → m2M → Prop, m2_MT D yX12_number cX12_number 5 (some .int) [.ref kM, .int 2, .int 11] μ Q3 ∧ ∀ (y1 : Int32) (μ2 : m2M), Q3 (some (.int y1)) μ2 → (∃ Q8 : Option Value → m2M → Prop, m2_MT D yX12_need cX12_need 2 none [.ref kM, .int 44] μ2 Q8 ∧ ∀ (μ7 : m2M), Q8 none μ7 → (∃ Q13 : Option Value → m2M → Prop, m2_MT D yX12_number cX12_number 5 (some .int) [.ref kM, .int 2, .int 99] μ7 Q13 ∧ ∀ (y11 : Int32) (μ12 : m2M), Q13 (some (.int y11)) μ12 → (∃ Q18 : Option Value → m2M → Prop, m2_MT D yX12_passes cX12_passes 2 (some .boolean) [.ref kM, .int 62] μ12 Q18 ∧ ∀ (y16 : Int32) (μ17 : m2M), Q18 (some (.int y16)) μ17 → ((y16 = 0 → (vp_in (μ17.1 kM 7) 8) ∧ (∃ Q32 : Option Value → m2M → Prop, m2_MT D yX12_arrive cX12_arrive 2 none [.ref kM, .int (μ17.1 kM 7)] (m2_si (m2_si (m2_si (m2_si (m2_si (m2_si (m2_si (m2_si μ17 kM_where ((μ17.1 kM 7)).toNatClampNeg y1) kM_home ((μ17.1 kM 7)).toNatClampNeg y1) kM_isStranger ((μ17.1 kM 7)).toNatClampNeg (vp_nar .boolean x1)) kM_worth ((μ17.1 kM 7)).toNatClampNeg y11) kM_errand ((μ17.1 kM 7)).toNatClampNeg (-1)) kM_comesBack ((μ17.1 kM 7)).toNatClampNeg (vp_nar .boolean 0)) kM_wasThere ((μ17.1 kM 7)).toNatClampNeg (vp_nar .boolean 0)) kM_isDone ((μ17.1 kM 7)).toNatClampNeg (vp_nar .boolean 0)) Q32 ∧ ∀ (μ31 : m2M), Q32 none μ31 → (Q none (m2_si μ31 kM 7 ((μ31.1 kM 7) + 1))))) ∧ (¬ y16 = 0 → ∃ Q37 : Option Value → m2M → Prop, m2_MT D yX12_number cX12_number 5 (some .int) [.ref kM, .int 2, .int 11] μ17 Q37 ∧ ∀ (y35 : Int32) (μ36 : m2M), Q37 (some (.int y35)) μ36 → ((vp_in (μ36.1 kM 7) 8) ∧ ((y35 = (-1) → ∃ Q51 : Option Value → m2M → Prop, m2_MT D yX12_arrive cX12_arrive 2 none [.ref kM, .int (μ36.1 kM 7)] (m2_si (m2_si (m2_si (m2_si (m2_si (m2_si (m2_si (m2_si μ36 kM_where ((μ36.1 kM 7)).toNatClampNeg y1) kM_home ((μ36.1 kM 7)).toNatClampNeg y1) kM_isStranger ((μ36.1 kM 7)).toNatClampNeg (vp_nar .boolean x1)) kM_worth ((μ36.1 kM 7)).toNatClampNeg y11) kM_errand ((μ36.1 kM 7)).toNatClampNeg y35) kM_comesBack ((μ36.1 kM 7)).toNatClampNeg (vp_nar .boolean 0)) kM_wasThere ((μ36.1 kM 7)).toNatClampNeg (vp_nar .boolean 0)) kM_isDone ((μ36.1 kM 7)).toNatClampNeg (vp_nar .boolean 0)) Q51 ∧ ∀ (μ50 : m2M), Q51 none μ50 → (Q none (m2_si μ50 kM 7 ((μ50.1 kM 7) + 1)))) ∧ (¬ y35 = (-1) → ∃ Q56 : Option Value → m2M → Prop, m2_MT D yX12_passes cX12_passes 2 (some .boolean) [.ref kM, .int 60] (m2_si (m2_si (m2_si (m2_si (m2_si μ36 kM_where ((μ36.1 kM 7)).toNatClampNeg y1) kM_home ((μ36.1 kM 7)).toNatClampNeg y1) kM_isStranger ((μ36.1 kM 7)).toNatClampNeg (vp_nar .boolean x1)) kM_worth ((μ36.1 kM 7)).toNatClampNeg y11) kM_errand ((μ36.1 kM 7)).toNatClampNeg y35) Q56 ∧ ∀ (y54 : Int32) (μ55 : m2M), Q56 (some (.int y54)) μ55 → ((vp_in (μ55.1 kM 7) 8) ∧ (∃ Q66 : Option Value → m2M → Prop, m2_MT D yX12_arrive cX12_arrive 2 none [.ref kM, .int (μ55.1 kM 7)] (m2_si (m2_si (m2_si μ55 kM_comesBack ((μ36.1 kM 7)).toNatClampNeg (vp_nar .boolean (if y54 = 0 then 0 else 1 : Int32))) kM_wasThere ((μ55.1 kM 7)).toNatClampNeg (vp_nar .boolean 0)) kM_isDone ((μ55.1 kM 7)).toNatClampNeg (vp_nar .boolean 0)) Q66 ∧ ∀ (μ65 : m2M), Q66 none μ65 → (Q none (m2_si μ65 kM 7 ((μ65.1 kM 7) + 1)))))))))))))) : κ 0 [.ref kM, .int x1, .null, .null, .null] [] μ := by
  have hB := h.b
  refine m2_aload_n hB dX12_readOne_0 rfl ?_
  refine m2_iconst hB dX12_readOne_1 (v := 2) (by decide) ?_
  refine m2_bipush hB dX12_readOne_2 (v := 11) (by decide) ?_
  obtain ⟨Q3, hM4, k⟩ := k
  refine m2_invi hB (as := [.int 2, .int 11]) dX12_readOne_4 mv_X12_204 rfl sh_kM rfl (Nat.le_of_ble_eq_true rfl) rfl hM4 (fun y1 μ2 hq5 => ?_)
  replace k := k y1 μ2 hq5
  refine m2_istore_n hB (ls' := [.ref kM, .int x1, .int y1, .null, .null]) dX12_readOne_7 rfl (by decide) rfl ?_
  refine m2_aload_n hB dX12_readOne_8 rfl ?_
  refine m2_bipush hB dX12_readOne_9 (v := 44) (by decide) ?_
  obtain ⟨Q8, hM9, k⟩ := k
  refine m2_invv hB (as := [.int 44]) dX12_readOne_11 mv_X12_208 rfl sh_kM rfl (Nat.le_of_ble_eq_true rfl) rfl hM9 (fun μ7 hq10 => ?_)
  replace k := k μ7 hq10
  refine m2_aload_n hB dX12_readOne_14 rfl ?_
  refine m2_iconst hB dX12_readOne_15 (v := 2) (by decide) ?_
  refine m2_bipush hB dX12_readOne_16 (v := 99) (by decide) ?_
  obtain ⟨Q13, hM14, k⟩ := k
  refine m2_invi hB (as := [.int 2, .int 99]) dX12_readOne_18 mv_X12_204 rfl sh_kM rfl (Nat.le_of_ble_eq_true rfl) rfl hM14 (fun y11 μ12 hq15 => ?_)
  replace k := k y11 μ12 hq15
  refine m2_istore_n hB (ls' := [.ref kM, .int x1, .int y1, .int y11, .null]) dX12_readOne_21 rfl (by decide) rfl ?_
  refine m2_aload_n hB dX12_readOne_22 rfl ?_
  refine m2_bipush hB dX12_readOne_23 (v := 62) (by decide) ?_
  obtain ⟨Q18, hM19, k⟩ := k
  refine m2_invz hB (as := [.int 62]) dX12_readOne_25 mv_X12_185 rfl sh_kM rfl (Nat.le_of_ble_eq_true rfl) rfl hM19 (fun y16 μ17 hq20 => ?_)
  replace k := k y16 μ17 hq20
  refine m2_if_eq hB dX12_readOne_28 (tgt := 41) (by decide) (fun q21 : y16 = 0 => ?_) (fun q21 : ¬ y16 = 0 => ?_)
  · replace k := k.1 q21
    refine m2_iconst hB dX12_readOne_41 (v := (-1)) (by decide) ?_
    refine m2_istore hB (ls' := [.ref kM, .int x1, .int y1, .int y11, .int (-1)]) dX12_readOne_42 (by decide) rfl ?_
    refine m2_aload_n hB dX12_readOne_44 rfl ?_
    refine m2_getR hB dX12_readOne_45 fl_X12_29 sh_kM (c1 := kM_where) rfl ?_
    refine m2_aload_n hB dX12_readOne_48 rfl ?_
    refine m2_getI hB dX12_readOne_49 fl_X12_156 sh_kM rfl ?_
    refine m2_iload_n hB dX12_readOne_52 rfl ?_
    obtain ⟨hi22, k⟩ := k
    refine m2_iast hB dX12_readOne_53 sh_kM_where hi22 ?_
    refine m2_aload_n hB dX12_readOne_54 rfl ?_
    refine m2_getR hB dX12_readOne_55 fl_X12_32 sh_kM (c1 := kM_home) rfl ?_
    refine m2_aload_n hB dX12_readOne_58 rfl ?_
    refine m2_getI hB dX12_readOne_59 fl_X12_156 sh_kM rfl ?_
    refine m2_iload_n hB dX12_readOne_62 rfl ?_
    have hi23 := hi22
    refine m2_iast hB dX12_readOne_63 sh_kM_home hi23 ?_
    refine m2_aload_n hB dX12_readOne_64 rfl ?_
    refine m2_getR hB dX12_readOne_65 fl_X12_35 sh_kM (c1 := kM_isStranger) rfl ?_
    refine m2_aload_n hB dX12_readOne_68 rfl ?_
    refine m2_getI hB dX12_readOne_69 fl_X12_156 sh_kM rfl ?_
    refine m2_iload_n hB dX12_readOne_72 rfl ?_
    have hi24 := hi22
    refine m2_zast hB dX12_readOne_73 sh_kM_isStranger hi24 ?_
    refine m2_aload_n hB dX12_readOne_74 rfl ?_
    refine m2_getR hB dX12_readOne_75 fl_X12_38 sh_kM (c1 := kM_worth) rfl ?_
    refine m2_aload_n hB dX12_readOne_78 rfl ?_
    refine m2_getI hB dX12_readOne_79 fl_X12_156 sh_kM rfl ?_
    refine m2_iload_n hB dX12_readOne_82 rfl ?_
    have hi25 := hi22
    refine m2_iast hB dX12_readOne_83 sh_kM_worth hi25 ?_
    refine m2_aload_n hB dX12_readOne_84 rfl ?_
    refine m2_getR hB dX12_readOne_85 fl_X12_41 sh_kM (c1 := kM_errand) rfl ?_
    refine m2_aload_n hB dX12_readOne_88 rfl ?_
    refine m2_getI hB dX12_readOne_89 fl_X12_156 sh_kM rfl ?_
    refine m2_iload hB dX12_readOne_92 rfl ?_
    have hi26 := hi22
    refine m2_iast hB dX12_readOne_94 sh_kM_errand hi26 ?_
    refine m2_aload_n hB dX12_readOne_95 rfl ?_
    refine m2_getR hB dX12_readOne_96 fl_X12_44 sh_kM (c1 := kM_comesBack) rfl ?_
    refine m2_aload_n hB dX12_readOne_99 rfl ?_
    refine m2_getI hB dX12_readOne_100 fl_X12_156 sh_kM rfl ?_
    refine m2_iload hB dX12_readOne_103 rfl ?_
    refine m2_iconst hB dX12_readOne_105 (v := (-1)) (by decide) ?_
    refine m2_icmp_eq hB dX12_readOne_106 (tgt := 122) (by decide) (fun _ => ?_) (fun q => absurd q (by decide))
    refine m2_iconst hB dX12_readOne_122 (v := 0) (by decide) ?_
    have hi27 := hi22
    refine m2_zast hB dX12_readOne_123 sh_kM_comesBack hi27 ?_
    refine m2_aload_n hB dX12_readOne_124 rfl ?_
    refine m2_getR hB dX12_readOne_125 fl_X12_47 sh_kM (c1 := kM_wasThere) rfl ?_
    refine m2_aload_n hB dX12_readOne_128 rfl ?_
    refine m2_getI hB dX12_readOne_129 fl_X12_156 sh_kM rfl ?_
    refine m2_iconst hB dX12_readOne_132 (v := 0) (by decide) ?_
    have hi28 := hi22
    refine m2_zast hB dX12_readOne_133 sh_kM_wasThere hi28 ?_
    refine m2_aload_n hB dX12_readOne_134 rfl ?_
    refine m2_getR hB dX12_readOne_135 fl_X12_50 sh_kM (c1 := kM_isDone) rfl ?_
    refine m2_aload_n hB dX12_readOne_138 rfl ?_
    refine m2_getI hB dX12_readOne_139 fl_X12_156 sh_kM rfl ?_
    refine m2_iconst hB dX12_readOne_142 (v := 0) (by decide) ?_
    have hi29 := hi22
    refine m2_zast hB dX12_readOne_143 sh_kM_isDone hi29 ?_
    refine m2_aload_n hB dX12_readOne_144 rfl ?_
    refine m2_aload_n hB dX12_readOne_145 rfl ?_
    refine m2_getI hB dX12_readOne_146 fl_X12_156 sh_kM rfl ?_
    obtain ⟨Q32, hM33, k⟩ := k
    refine m2_invv hB (as := [.int (μ17.1 kM 7)]) dX12_readOne_149 mv_X12_212 rfl sh_kM rfl (Nat.le_of_ble_eq_true rfl) rfl hM33 (fun μ31 hq34 => ?_)
    replace k := k μ31 hq34
    refine m2_aload_n hB dX12_readOne_152 rfl ?_
    refine m2_dup hB dX12_readOne_153 rfl ?_
    refine m2_getI hB dX12_readOne_154 fl_X12_156 sh_kM rfl ?_
    refine m2_iconst hB dX12_readOne_157 (v := 1) (by decide) ?_
    refine m2_iadd hB dX12_readOne_158 ?_
    refine m2_putI hB dX12_readOne_159 fl_X12_156 sh_kM rfl ?_
    exact m2_vret h dX12_readOne_162 k
  · replace k := k.2 q21
    refine m2_aload_n hB dX12_readOne_31 rfl ?_
    refine m2_iconst hB dX12_readOne_32 (v := 2) (by decide) ?_
    refine m2_bipush hB dX12_readOne_33 (v := 11) (by decide) ?_
    obtain ⟨Q37, hM38, k⟩ := k
    refine m2_invi hB (as := [.int 2, .int 11]) dX12_readOne_35 mv_X12_204 rfl sh_kM rfl (Nat.le_of_ble_eq_true rfl) rfl hM38 (fun y35 μ36 hq39 => ?_)
    replace k := k y35 μ36 hq39
    refine m2_goto hB dX12_readOne_38 (tgt := 42) (by decide) ?_
    refine m2_istore hB (ls' := [.ref kM, .int x1, .int y1, .int y11, .int y35]) dX12_readOne_42 (by decide) rfl ?_
    refine m2_aload_n hB dX12_readOne_44 rfl ?_
    refine m2_getR hB dX12_readOne_45 fl_X12_29 sh_kM (c1 := kM_where) rfl ?_
    refine m2_aload_n hB dX12_readOne_48 rfl ?_
    refine m2_getI hB dX12_readOne_49 fl_X12_156 sh_kM rfl ?_
    refine m2_iload_n hB dX12_readOne_52 rfl ?_
    obtain ⟨hi40, k⟩ := k
    refine m2_iast hB dX12_readOne_53 sh_kM_where hi40 ?_
    refine m2_aload_n hB dX12_readOne_54 rfl ?_
    refine m2_getR hB dX12_readOne_55 fl_X12_32 sh_kM (c1 := kM_home) rfl ?_
    refine m2_aload_n hB dX12_readOne_58 rfl ?_
    refine m2_getI hB dX12_readOne_59 fl_X12_156 sh_kM rfl ?_
    refine m2_iload_n hB dX12_readOne_62 rfl ?_
    have hi41 := hi40
    refine m2_iast hB dX12_readOne_63 sh_kM_home hi41 ?_
    refine m2_aload_n hB dX12_readOne_64 rfl ?_
    refine m2_getR hB dX12_readOne_65 fl_X12_35 sh_kM (c1 := kM_isStranger) rfl ?_
    refine m2_aload_n hB dX12_readOne_68 rfl ?_
    refine m2_getI hB dX12_readOne_69 fl_X12_156 sh_kM rfl ?_
    refine m2_iload_n hB dX12_readOne_72 rfl ?_
    have hi42 := hi40
    refine m2_zast hB dX12_readOne_73 sh_kM_isStranger hi42 ?_
    refine m2_aload_n hB dX12_readOne_74 rfl ?_
    refine m2_getR hB dX12_readOne_75 fl_X12_38 sh_kM (c1 := kM_worth) rfl ?_
    refine m2_aload_n hB dX12_readOne_78 rfl ?_
    refine m2_getI hB dX12_readOne_79 fl_X12_156 sh_kM rfl ?_
    refine m2_iload_n hB dX12_readOne_82 rfl ?_
    have hi43 := hi40
    refine m2_iast hB dX12_readOne_83 sh_kM_worth hi43 ?_
    refine m2_aload_n hB dX12_readOne_84 rfl ?_
    refine m2_getR hB dX12_readOne_85 fl_X12_41 sh_kM (c1 := kM_errand) rfl ?_
    refine m2_aload_n hB dX12_readOne_88 rfl ?_
    refine m2_getI hB dX12_readOne_89 fl_X12_156 sh_kM rfl ?_
    refine m2_iload hB dX12_readOne_92 rfl ?_
    have hi44 := hi40
    refine m2_iast hB dX12_readOne_94 sh_kM_errand hi44 ?_
    refine m2_aload_n hB dX12_readOne_95 rfl ?_
    refine m2_getR hB dX12_readOne_96 fl_X12_44 sh_kM (c1 := kM_comesBack) rfl ?_
    refine m2_aload_n hB dX12_readOne_99 rfl ?_
    refine m2_getI hB dX12_readOne_100 fl_X12_156 sh_kM rfl ?_
    refine m2_iload hB dX12_readOne_103 rfl ?_
    refine m2_iconst hB dX12_readOne_105 (v := (-1)) (by decide) ?_
    refine m2_icmp_eq hB dX12_readOne_106 (tgt := 122) (by decide) (fun q45 : y35 = (-1) => ?_) (fun q45 : ¬ y35 = (-1) => ?_)
    · replace k := k.1 q45
      refine m2_iconst hB dX12_readOne_122 (v := 0) (by decide) ?_
      have hi46 := hi40
      refine m2_zast hB dX12_readOne_123 sh_kM_comesBack hi46 ?_
      refine m2_aload_n hB dX12_readOne_124 rfl ?_
      refine m2_getR hB dX12_readOne_125 fl_X12_47 sh_kM (c1 := kM_wasThere) rfl ?_
      refine m2_aload_n hB dX12_readOne_128 rfl ?_
      refine m2_getI hB dX12_readOne_129 fl_X12_156 sh_kM rfl ?_
      refine m2_iconst hB dX12_readOne_132 (v := 0) (by decide) ?_
      have hi47 := hi40
      refine m2_zast hB dX12_readOne_133 sh_kM_wasThere hi47 ?_
      refine m2_aload_n hB dX12_readOne_134 rfl ?_
      refine m2_getR hB dX12_readOne_135 fl_X12_50 sh_kM (c1 := kM_isDone) rfl ?_
      refine m2_aload_n hB dX12_readOne_138 rfl ?_
      refine m2_getI hB dX12_readOne_139 fl_X12_156 sh_kM rfl ?_
      refine m2_iconst hB dX12_readOne_142 (v := 0) (by decide) ?_
      have hi48 := hi40
      refine m2_zast hB dX12_readOne_143 sh_kM_isDone hi48 ?_
      refine m2_aload_n hB dX12_readOne_144 rfl ?_
      refine m2_aload_n hB dX12_readOne_145 rfl ?_
      refine m2_getI hB dX12_readOne_146 fl_X12_156 sh_kM rfl ?_
      obtain ⟨Q51, hM52, k⟩ := k
      refine m2_invv hB (as := [.int (μ36.1 kM 7)]) dX12_readOne_149 mv_X12_212 rfl sh_kM rfl (Nat.le_of_ble_eq_true rfl) rfl hM52 (fun μ50 hq53 => ?_)
      replace k := k μ50 hq53
      refine m2_aload_n hB dX12_readOne_152 rfl ?_
      refine m2_dup hB dX12_readOne_153 rfl ?_
      refine m2_getI hB dX12_readOne_154 fl_X12_156 sh_kM rfl ?_
      refine m2_iconst hB dX12_readOne_157 (v := 1) (by decide) ?_
      refine m2_iadd hB dX12_readOne_158 ?_
      refine m2_putI hB dX12_readOne_159 fl_X12_156 sh_kM rfl ?_
      exact m2_vret h dX12_readOne_162 k
    · replace k := k.2 q45
      refine m2_aload_n hB dX12_readOne_109 rfl ?_
      refine m2_bipush hB dX12_readOne_110 (v := 60) (by decide) ?_
      obtain ⟨Q56, hM57, k⟩ := k
      refine m2_invz hB (as := [.int 60]) dX12_readOne_112 mv_X12_185 rfl sh_kM rfl (Nat.le_of_ble_eq_true rfl) rfl hM57 (fun y54 μ55 hq58 => ?_)
      replace k := k y54 μ55 hq58
      have G60 : κ 123 [.ref kM, .int x1, .int y1, .int y11, .int y35] [.int (if y54 = 0 then 0 else 1 : Int32), .int (μ36.1 kM 7), .ref kM_comesBack] μ55 := by
        have hi61 := hi40
        refine m2_zast hB dX12_readOne_123 sh_kM_comesBack hi61 ?_
        refine m2_aload_n hB dX12_readOne_124 rfl ?_
        refine m2_getR hB dX12_readOne_125 fl_X12_47 sh_kM (c1 := kM_wasThere) rfl ?_
        refine m2_aload_n hB dX12_readOne_128 rfl ?_
        refine m2_getI hB dX12_readOne_129 fl_X12_156 sh_kM rfl ?_
        refine m2_iconst hB dX12_readOne_132 (v := 0) (by decide) ?_
        obtain ⟨hi62, k⟩ := k
        refine m2_zast hB dX12_readOne_133 sh_kM_wasThere hi62 ?_
        refine m2_aload_n hB dX12_readOne_134 rfl ?_
        refine m2_getR hB dX12_readOne_135 fl_X12_50 sh_kM (c1 := kM_isDone) rfl ?_
        refine m2_aload_n hB dX12_readOne_138 rfl ?_
        refine m2_getI hB dX12_readOne_139 fl_X12_156 sh_kM rfl ?_
        refine m2_iconst hB dX12_readOne_142 (v := 0) (by decide) ?_
        have hi63 := hi62
        refine m2_zast hB dX12_readOne_143 sh_kM_isDone hi63 ?_
        refine m2_aload_n hB dX12_readOne_144 rfl ?_
        refine m2_aload_n hB dX12_readOne_145 rfl ?_
        refine m2_getI hB dX12_readOne_146 fl_X12_156 sh_kM rfl ?_
        obtain ⟨Q66, hM67, k⟩ := k
        refine m2_invv hB (as := [.int (μ55.1 kM 7)]) dX12_readOne_149 mv_X12_212 rfl sh_kM rfl (Nat.le_of_ble_eq_true rfl) rfl hM67 (fun μ65 hq68 => ?_)
        replace k := k μ65 hq68
        refine m2_aload_n hB dX12_readOne_152 rfl ?_
        refine m2_dup hB dX12_readOne_153 rfl ?_
        refine m2_getI hB dX12_readOne_154 fl_X12_156 sh_kM rfl ?_
        refine m2_iconst hB dX12_readOne_157 (v := 1) (by decide) ?_
        refine m2_iadd hB dX12_readOne_158 ?_
        refine m2_putI hB dX12_readOne_159 fl_X12_156 sh_kM rfl ?_
        exact m2_vret h dX12_readOne_162 k
      refine m2_if_eq hB dX12_readOne_115 (tgt := 122) (by decide) (fun q59 : y54 = 0 => ?_) (fun q59 : ¬ y54 = 0 => ?_)
      · rw [if_pos q59] at G60
        refine m2_iconst hB dX12_readOne_122 (v := 0) (by decide) ?_
        exact G60
      · rw [if_neg q59] at G60
        refine m2_iconst hB dX12_readOne_118 (v := 1) (by decide) ?_
        refine m2_goto hB dX12_readOne_119 (tgt := 123) (by decide) ?_
        exact G60
theorem dX12_arrive_0 : decode cX12_arrive 0 = .ok (.aload_n 0, 1) := by decide +kernel
theorem dX12_arrive_1 : decode cX12_arrive 1 = .ok (.getfield 41, 3) := by decide +kernel
theorem dX12_arrive_4 : decode cX12_arrive 4 = .ok (.iload_n 1, 1) := by decide +kernel
theorem dX12_arrive_5 : decode cX12_arrive 5 = .ok (.iaload, 1) := by decide +kernel
theorem dX12_arrive_6 : decode cX12_arrive 6 = .ok (.iconst (-1), 1) := by decide +kernel
theorem dX12_arrive_7 : decode cX12_arrive 7 = .ok (.if_icmp .ne 4, 3) := by decide +kernel
theorem dX12_arrive_10 : decode cX12_arrive 10 = .ok (.return_, 1) := by decide +kernel
theorem dX12_arrive_11 : decode cX12_arrive 11 = .ok (.aload_n 0, 1) := by decide +kernel
theorem dX12_arrive_12 : decode cX12_arrive 12 = .ok (.getfield 47, 3) := by decide +kernel
theorem dX12_arrive_15 : decode cX12_arrive 15 = .ok (.iload_n 1, 1) := by decide +kernel
theorem dX12_arrive_16 : decode cX12_arrive 16 = .ok (.aload_n 0, 1) := by decide +kernel
theorem dX12_arrive_17 : decode cX12_arrive 17 = .ok (.getfield 47, 3) := by decide +kernel
theorem dX12_arrive_20 : decode cX12_arrive 20 = .ok (.iload_n 1, 1) := by decide +kernel
theorem dX12_arrive_21 : decode cX12_arrive 21 = .ok (.baload, 1) := by decide +kernel
theorem dX12_arrive_22 : decode cX12_arrive 22 = .ok (.ifCond .ne 18, 3) := by decide +kernel
theorem dX12_arrive_25 : decode cX12_arrive 25 = .ok (.aload_n 0, 1) := by decide +kernel
theorem dX12_arrive_26 : decode cX12_arrive 26 = .ok (.getfield 29, 3) := by decide +kernel
theorem dX12_arrive_29 : decode cX12_arrive 29 = .ok (.iload_n 1, 1) := by decide +kernel
theorem dX12_arrive_30 : decode cX12_arrive 30 = .ok (.iaload, 1) := by decide +kernel
theorem dX12_arrive_31 : decode cX12_arrive 31 = .ok (.aload_n 0, 1) := by decide +kernel
theorem dX12_arrive_32 : decode cX12_arrive 32 = .ok (.getfield 41, 3) := by decide +kernel
theorem dX12_arrive_35 : decode cX12_arrive 35 = .ok (.iload_n 1, 1) := by decide +kernel
theorem dX12_arrive_36 : decode cX12_arrive 36 = .ok (.iaload, 1) := by decide +kernel
theorem dX12_arrive_37 : decode cX12_arrive 37 = .ok (.if_icmp .ne 7, 3) := by decide +kernel
theorem dX12_arrive_40 : decode cX12_arrive 40 = .ok (.iconst 1, 1) := by decide +kernel
theorem dX12_arrive_41 : decode cX12_arrive 41 = .ok (.goto 4, 3) := by decide +kernel
theorem dX12_arrive_44 : decode cX12_arrive 44 = .ok (.iconst 0, 1) := by decide +kernel
theorem dX12_arrive_45 : decode cX12_arrive 45 = .ok (.bastore, 1) := by decide +kernel
theorem dX12_arrive_46 : decode cX12_arrive 46 = .ok (.aload_n 0, 1) := by decide +kernel
theorem dX12_arrive_47 : decode cX12_arrive 47 = .ok (.getfield 50, 3) := by decide +kernel
theorem dX12_arrive_50 : decode cX12_arrive 50 = .ok (.iload_n 1, 1) := by decide +kernel
theorem dX12_arrive_51 : decode cX12_arrive 51 = .ok (.aload_n 0, 1) := by decide +kernel
theorem dX12_arrive_52 : decode cX12_arrive 52 = .ok (.getfield 50, 3) := by decide +kernel
theorem dX12_arrive_55 : decode cX12_arrive 55 = .ok (.iload_n 1, 1) := by decide +kernel
theorem dX12_arrive_56 : decode cX12_arrive 56 = .ok (.baload, 1) := by decide +kernel
theorem dX12_arrive_57 : decode cX12_arrive 57 = .ok (.ifCond .ne 36, 3) := by decide +kernel
theorem dX12_arrive_60 : decode cX12_arrive 60 = .ok (.aload_n 0, 1) := by decide +kernel
theorem dX12_arrive_61 : decode cX12_arrive 61 = .ok (.getfield 47, 3) := by decide +kernel
theorem dX12_arrive_64 : decode cX12_arrive 64 = .ok (.iload_n 1, 1) := by decide +kernel
theorem dX12_arrive_65 : decode cX12_arrive 65 = .ok (.baload, 1) := by decide +kernel
theorem dX12_arrive_66 : decode cX12_arrive 66 = .ok (.ifCond .eq 31, 3) := by decide +kernel
theorem dX12_arrive_69 : decode cX12_arrive 69 = .ok (.aload_n 0, 1) := by decide +kernel
theorem dX12_arrive_70 : decode cX12_arrive 70 = .ok (.getfield 44, 3) := by decide +kernel
theorem dX12_arrive_73 : decode cX12_arrive 73 = .ok (.iload_n 1, 1) := by decide +kernel
theorem dX12_arrive_74 : decode cX12_arrive 74 = .ok (.baload, 1) := by decide +kernel
theorem dX12_arrive_75 : decode cX12_arrive 75 = .ok (.ifCond .eq 18, 3) := by decide +kernel
theorem dX12_arrive_78 : decode cX12_arrive 78 = .ok (.aload_n 0, 1) := by decide +kernel
theorem dX12_arrive_79 : decode cX12_arrive 79 = .ok (.getfield 29, 3) := by decide +kernel
theorem dX12_arrive_82 : decode cX12_arrive 82 = .ok (.iload_n 1, 1) := by decide +kernel
theorem dX12_arrive_83 : decode cX12_arrive 83 = .ok (.iaload, 1) := by decide +kernel
theorem dX12_arrive_84 : decode cX12_arrive 84 = .ok (.aload_n 0, 1) := by decide +kernel
theorem dX12_arrive_85 : decode cX12_arrive 85 = .ok (.getfield 32, 3) := by decide +kernel
theorem dX12_arrive_88 : decode cX12_arrive 88 = .ok (.iload_n 1, 1) := by decide +kernel
theorem dX12_arrive_89 : decode cX12_arrive 89 = .ok (.iaload, 1) := by decide +kernel
theorem dX12_arrive_90 : decode cX12_arrive 90 = .ok (.if_icmp .ne 7, 3) := by decide +kernel
theorem dX12_arrive_93 : decode cX12_arrive 93 = .ok (.iconst 1, 1) := by decide +kernel
theorem dX12_arrive_94 : decode cX12_arrive 94 = .ok (.goto 4, 3) := by decide +kernel
theorem dX12_arrive_97 : decode cX12_arrive 97 = .ok (.iconst 0, 1) := by decide +kernel
theorem dX12_arrive_98 : decode cX12_arrive 98 = .ok (.bastore, 1) := by decide +kernel
theorem dX12_arrive_99 : decode cX12_arrive 99 = .ok (.return_, 1) := by decide +kernel
set_option maxRecDepth 100000 in
set_option maxHeartbeats 4000000 in
theorem B_X12_arrive_0 {κ : Nat → List Value → List Value → m2M → Prop} {D : Nat} {Q : Option Value → m2M → Prop} (h : m2_RL κ cX12_arrive RX12 2 D none Q) {x1 : Int32} {μ : m2M} (k : (vp_in x1 8) ∧ ((¬ (μ.1 kM_errand (x1).toNatClampNeg) = (-1) → (¬ (μ.1 kM_wasThere (x1).toNatClampNeg) = 0 → (¬ (μ.1 kM_isDone (x1).toNatClampNeg) = 0 → Q none (m2_si (m2_si μ kM_wasThere (x1).toNatClampNeg (vp_nar .boolean 1)) kM_isDone (x1).toNatClampNeg (vp_nar .boolean 1))) ∧ ((μ.1 kM_isDone (x1).toNatClampNeg) = 0 → ((((m2_si μ kM_wasThere (x1).toNatClampNeg (vp_nar .boolean 1))).1 kM_wasThere (x1).toNatClampNeg) = 0 → Q none (m2_si (m2_si μ kM_wasThere (x1).toNatClampNeg (vp_nar .boolean 1)) kM_isDone (x1).toNatClampNeg (vp_nar .boolean 0))) ∧ (¬ (((m2_si μ kM_wasThere (x1).toNatClampNeg (vp_nar .boolean 1))).1 kM_wasThere (x1).toNatClampNeg) = 0 → ((μ.1 kM_comesBack (x1).toNatClampNeg) = 0 → Q none (m2_si (m2_si μ kM_wasThere (x1).toNatClampNeg (vp_nar .boolean 1)) kM_isDone (x1).toNatClampNeg (vp_nar .boolean 1))) ∧ (¬ (μ.1 kM_comesBack (x1).toNatClampNeg) = 0 → Q none (m2_si (m2_si μ kM_wasThere (x1).toNatClampNeg (vp_nar .boolean 1)) kM_isDone (x1).toNatClampNeg (vp_nar .boolean (if (μ.1 kM_where (x1).toNatClampNeg) = (μ.1 kM_home (x1).toNatClampNeg) then 1 else 0 : Int32))))))) ∧ ((μ.1 kM_wasThere (x1).toNatClampNeg) = 0 → (¬ (μ.1 kM_isDone (x1).toNatClampNeg) = 0 → Q none (m2_si (m2_si μ kM_wasThere (x1).toNatClampNeg (vp_nar .boolean (if (μ.1 kM_where (x1).toNatClampNeg) = (μ.1 kM_errand (x1).toNatClampNeg) then 1 else 0 : Int32))) kM_isDone (x1).toNatClampNeg (vp_nar .boolean 1))) ∧ ((μ.1 kM_isDone (x1).toNatClampNeg) = 0 → ((((m2_si μ kM_wasThere (x1).toNatClampNeg (vp_nar .boolean (if (μ.1 kM_where (x1).toNatClampNeg) = (μ.1 kM_errand (x1).toNatClampNeg) then 1 else 0 : Int32)))).1 kM_wasThere (x1).toNatClampNeg) = 0 → Q none (m2_si (m2_si μ kM_wasThere (x1).toNatClampNeg (vp_nar .boolean (if (μ.1 kM_where (x1).toNatClampNeg) = (μ.1 kM_errand (x1).toNatClampNeg) then 1 else 0 : Int32))) kM_isDone (x1).toNatClampNeg (vp_nar .boolean 0))) ∧ (¬ (((m2_si μ kM_wasThere (x1).toNatClampNeg (vp_nar .boolean (if (μ.1 kM_where (x1).toNatClampNeg) = (μ.1 kM_errand (x1).toNatClampNeg) then 1 else 0 : Int32)))).1 kM_wasThere (x1).toNatClampNeg) = 0 → ((μ.1 kM_comesBack (x1).toNatClampNeg) = 0 → Q none (m2_si (m2_si μ kM_wasThere (x1).toNatClampNeg (vp_nar .boolean (if (μ.1 kM_where (x1).toNatClampNeg) = (μ.1 kM_errand (x1).toNatClampNeg) then 1 else 0 : Int32))) kM_isDone (x1).toNatClampNeg (vp_nar .boolean 1))) ∧ (¬ (μ.1 kM_comesBack (x1).toNatClampNeg) = 0 → Q none (m2_si (m2_si μ kM_wasThere (x1).toNatClampNeg (vp_nar .boolean (if (μ.1 kM_where (x1).toNatClampNeg) = (μ.1 kM_errand (x1).toNatClampNeg) then 1 else 0 : Int32))) kM_isDone (x1).toNatClampNeg (vp_nar .boolean (if (μ.1 kM_where (x1).toNatClampNeg) = (μ.1 kM_home (x1).toNatClampNeg) then 1 else 0 : Int32)))))))) ∧ ((μ.1 kM_errand (x1).toNatClampNeg) = (-1) → Q none μ))) : κ 0 [.ref kM, .int x1] [] μ := by
  have hB := h.b
  refine m2_aload_n hB dX12_arrive_0 rfl ?_
  refine m2_getR hB dX12_arrive_1 fl_X12_41 sh_kM (c1 := kM_errand) rfl ?_
  refine m2_iload_n hB dX12_arrive_4 rfl ?_
  obtain ⟨hi1, k⟩ := k
  refine m2_iald hB dX12_arrive_5 sh_kM_errand hi1 ?_
  refine m2_iconst hB dX12_arrive_6 (v := (-1)) (by decide) ?_
  refine m2_icmp_ne hB dX12_arrive_7 (tgt := 11) (by decide) (fun q2 : ¬ (μ.1 kM_errand (x1).toNatClampNeg) = (-1) => ?_) (fun q2 : (μ.1 kM_errand (x1).toNatClampNeg) = (-1) => ?_)
  · replace k := k.1 q2
    refine m2_aload_n hB dX12_arrive_11 rfl ?_
    refine m2_getR hB dX12_arrive_12 fl_X12_47 sh_kM (c1 := kM_wasThere) rfl ?_
    refine m2_iload_n hB dX12_arrive_15 rfl ?_
    refine m2_aload_n hB dX12_arrive_16 rfl ?_
    refine m2_getR hB dX12_arrive_17 fl_X12_47 sh_kM (c1 := kM_wasThere) rfl ?_
    refine m2_iload_n hB dX12_arrive_20 rfl ?_
    have hi3 := hi1
    refine m2_zald hB dX12_arrive_21 sh_kM_wasThere hi3 ?_
    refine m2_if_ne hB dX12_arrive_22 (tgt := 40) (by decide) (fun q5 : ¬ (μ.1 kM_wasThere (x1).toNatClampNeg) = 0 => ?_) (fun q5 : (μ.1 kM_wasThere (x1).toNatClampNeg) = 0 => ?_)
    · replace k := k.1 q5
      refine m2_iconst hB dX12_arrive_40 (v := 1) (by decide) ?_
      refine m2_goto hB dX12_arrive_41 (tgt := 45) (by decide) ?_
      have hi6 := hi1
      refine m2_zast hB dX12_arrive_45 sh_kM_wasThere hi6 ?_
      refine m2_aload_n hB dX12_arrive_46 rfl ?_
      refine m2_getR hB dX12_arrive_47 fl_X12_50 sh_kM (c1 := kM_isDone) rfl ?_
      refine m2_iload_n hB dX12_arrive_50 rfl ?_
      refine m2_aload_n hB dX12_arrive_51 rfl ?_
      refine m2_getR hB dX12_arrive_52 fl_X12_50 sh_kM (c1 := kM_isDone) rfl ?_
      refine m2_iload_n hB dX12_arrive_55 rfl ?_
      have hi7 := hi1
      refine m2_zald hB dX12_arrive_56 sh_kM_isDone hi7 ?_
      refine m2_if_ne hB dX12_arrive_57 (tgt := 93) (by decide) (fun q9 : ¬ (μ.1 kM_isDone (x1).toNatClampNeg) = 0 => ?_) (fun q9 : (μ.1 kM_isDone (x1).toNatClampNeg) = 0 => ?_)
      · replace k := k.1 q9
        refine m2_iconst hB dX12_arrive_93 (v := 1) (by decide) ?_
        refine m2_goto hB dX12_arrive_94 (tgt := 98) (by decide) ?_
        have hi10 := hi1
        refine m2_zast hB dX12_arrive_98 sh_kM_isDone hi10 ?_
        exact m2_vret h dX12_arrive_99 k
      · replace k := k.2 q9
        refine m2_aload_n hB dX12_arrive_60 rfl ?_
        refine m2_getR hB dX12_arrive_61 fl_X12_47 sh_kM (c1 := kM_wasThere) rfl ?_
        refine m2_iload_n hB dX12_arrive_64 rfl ?_
        have hi11 := hi1
        refine m2_zald hB dX12_arrive_65 sh_kM_wasThere hi11 ?_
        refine m2_if_eq hB dX12_arrive_66 (tgt := 97) (by decide) (fun q13 : (((m2_si μ kM_wasThere (x1).toNatClampNeg (vp_nar .boolean 1))).1 kM_wasThere (x1).toNatClampNeg) = 0 => ?_) (fun q13 : ¬ (((m2_si μ kM_wasThere (x1).toNatClampNeg (vp_nar .boolean 1))).1 kM_wasThere (x1).toNatClampNeg) = 0 => ?_)
        · replace k := k.1 q13
          refine m2_iconst hB dX12_arrive_97 (v := 0) (by decide) ?_
          have hi14 := hi1
          refine m2_zast hB dX12_arrive_98 sh_kM_isDone hi14 ?_
          exact m2_vret h dX12_arrive_99 k
        · replace k := k.2 q13
          refine m2_aload_n hB dX12_arrive_69 rfl ?_
          refine m2_getR hB dX12_arrive_70 fl_X12_44 sh_kM (c1 := kM_comesBack) rfl ?_
          refine m2_iload_n hB dX12_arrive_73 rfl ?_
          have hi15 := hi1
          refine m2_zald hB dX12_arrive_74 sh_kM_comesBack hi15 ?_
          refine m2_if_eq hB dX12_arrive_75 (tgt := 93) (by decide) (fun q17 : (μ.1 kM_comesBack (x1).toNatClampNeg) = 0 => ?_) (fun q17 : ¬ (μ.1 kM_comesBack (x1).toNatClampNeg) = 0 => ?_)
          · replace k := k.1 q17
            refine m2_iconst hB dX12_arrive_93 (v := 1) (by decide) ?_
            refine m2_goto hB dX12_arrive_94 (tgt := 98) (by decide) ?_
            have hi18 := hi1
            refine m2_zast hB dX12_arrive_98 sh_kM_isDone hi18 ?_
            exact m2_vret h dX12_arrive_99 k
          · replace k := k.2 q17
            refine m2_aload_n hB dX12_arrive_78 rfl ?_
            refine m2_getR hB dX12_arrive_79 fl_X12_29 sh_kM (c1 := kM_where) rfl ?_
            refine m2_iload_n hB dX12_arrive_82 rfl ?_
            have hi19 := hi1
            refine m2_iald hB dX12_arrive_83 sh_kM_where hi19 ?_
            refine m2_aload_n hB dX12_arrive_84 rfl ?_
            refine m2_getR hB dX12_arrive_85 fl_X12_32 sh_kM (c1 := kM_home) rfl ?_
            refine m2_iload_n hB dX12_arrive_88 rfl ?_
            have hi20 := hi1
            refine m2_iald hB dX12_arrive_89 sh_kM_home hi20 ?_
            have G22 : κ 98 [.ref kM, .int x1] [.int (if (μ.1 kM_where (x1).toNatClampNeg) = (μ.1 kM_home (x1).toNatClampNeg) then 1 else 0 : Int32), .int x1, .ref kM_isDone] (m2_si μ kM_wasThere (x1).toNatClampNeg (vp_nar .boolean 1)) := by
              have hi23 := hi1
              refine m2_zast hB dX12_arrive_98 sh_kM_isDone hi23 ?_
              exact m2_vret h dX12_arrive_99 k
            refine m2_icmp_ne hB dX12_arrive_90 (tgt := 97) (by decide) (fun q21 : ¬ (μ.1 kM_where (x1).toNatClampNeg) = (μ.1 kM_home (x1).toNatClampNeg) => ?_) (fun q21 : (μ.1 kM_where (x1).toNatClampNeg) = (μ.1 kM_home (x1).toNatClampNeg) => ?_)
            · rw [if_neg q21] at G22
              refine m2_iconst hB dX12_arrive_97 (v := 0) (by decide) ?_
              exact G22
            · rw [if_pos q21] at G22
              refine m2_iconst hB dX12_arrive_93 (v := 1) (by decide) ?_
              refine m2_goto hB dX12_arrive_94 (tgt := 98) (by decide) ?_
              exact G22
    · replace k := k.2 q5
      refine m2_aload_n hB dX12_arrive_25 rfl ?_
      refine m2_getR hB dX12_arrive_26 fl_X12_29 sh_kM (c1 := kM_where) rfl ?_
      refine m2_iload_n hB dX12_arrive_29 rfl ?_
      have hi24 := hi1
      refine m2_iald hB dX12_arrive_30 sh_kM_where hi24 ?_
      refine m2_aload_n hB dX12_arrive_31 rfl ?_
      refine m2_getR hB dX12_arrive_32 fl_X12_41 sh_kM (c1 := kM_errand) rfl ?_
      refine m2_iload_n hB dX12_arrive_35 rfl ?_
      have hi25 := hi1
      refine m2_iald hB dX12_arrive_36 sh_kM_errand hi25 ?_
      have G27 : κ 45 [.ref kM, .int x1] [.int (if (μ.1 kM_where (x1).toNatClampNeg) = (μ.1 kM_errand (x1).toNatClampNeg) then 1 else 0 : Int32), .int x1, .ref kM_wasThere] μ := by
        have hi28 := hi1
        refine m2_zast hB dX12_arrive_45 sh_kM_wasThere hi28 ?_
        refine m2_aload_n hB dX12_arrive_46 rfl ?_
        refine m2_getR hB dX12_arrive_47 fl_X12_50 sh_kM (c1 := kM_isDone) rfl ?_
        refine m2_iload_n hB dX12_arrive_50 rfl ?_
        refine m2_aload_n hB dX12_arrive_51 rfl ?_
        refine m2_getR hB dX12_arrive_52 fl_X12_50 sh_kM (c1 := kM_isDone) rfl ?_
        refine m2_iload_n hB dX12_arrive_55 rfl ?_
        have hi29 := hi1
        refine m2_zald hB dX12_arrive_56 sh_kM_isDone hi29 ?_
        refine m2_if_ne hB dX12_arrive_57 (tgt := 93) (by decide) (fun q31 : ¬ (μ.1 kM_isDone (x1).toNatClampNeg) = 0 => ?_) (fun q31 : (μ.1 kM_isDone (x1).toNatClampNeg) = 0 => ?_)
        · replace k := k.1 q31
          refine m2_iconst hB dX12_arrive_93 (v := 1) (by decide) ?_
          refine m2_goto hB dX12_arrive_94 (tgt := 98) (by decide) ?_
          have hi32 := hi1
          refine m2_zast hB dX12_arrive_98 sh_kM_isDone hi32 ?_
          exact m2_vret h dX12_arrive_99 k
        · replace k := k.2 q31
          refine m2_aload_n hB dX12_arrive_60 rfl ?_
          refine m2_getR hB dX12_arrive_61 fl_X12_47 sh_kM (c1 := kM_wasThere) rfl ?_
          refine m2_iload_n hB dX12_arrive_64 rfl ?_
          have hi33 := hi1
          refine m2_zald hB dX12_arrive_65 sh_kM_wasThere hi33 ?_
          refine m2_if_eq hB dX12_arrive_66 (tgt := 97) (by decide) (fun q35 : (((m2_si μ kM_wasThere (x1).toNatClampNeg (vp_nar .boolean (if (μ.1 kM_where (x1).toNatClampNeg) = (μ.1 kM_errand (x1).toNatClampNeg) then 1 else 0 : Int32)))).1 kM_wasThere (x1).toNatClampNeg) = 0 => ?_) (fun q35 : ¬ (((m2_si μ kM_wasThere (x1).toNatClampNeg (vp_nar .boolean (if (μ.1 kM_where (x1).toNatClampNeg) = (μ.1 kM_errand (x1).toNatClampNeg) then 1 else 0 : Int32)))).1 kM_wasThere (x1).toNatClampNeg) = 0 => ?_)
          · replace k := k.1 q35
            refine m2_iconst hB dX12_arrive_97 (v := 0) (by decide) ?_
            have hi36 := hi1
            refine m2_zast hB dX12_arrive_98 sh_kM_isDone hi36 ?_
            exact m2_vret h dX12_arrive_99 k
          · replace k := k.2 q35
            refine m2_aload_n hB dX12_arrive_69 rfl ?_
            refine m2_getR hB dX12_arrive_70 fl_X12_44 sh_kM (c1 := kM_comesBack) rfl ?_
            refine m2_iload_n hB dX12_arrive_73 rfl ?_
            have hi37 := hi1
            refine m2_zald hB dX12_arrive_74 sh_kM_comesBack hi37 ?_
            refine m2_if_eq hB dX12_arrive_75 (tgt := 93) (by decide) (fun q39 : (μ.1 kM_comesBack (x1).toNatClampNeg) = 0 => ?_) (fun q39 : ¬ (μ.1 kM_comesBack (x1).toNatClampNeg) = 0 => ?_)
            · replace k := k.1 q39
              refine m2_iconst hB dX12_arrive_93 (v := 1) (by decide) ?_
              refine m2_goto hB dX12_arrive_94 (tgt := 98) (by decide) ?_
              have hi40 := hi1
              refine m2_zast hB dX12_arrive_98 sh_kM_isDone hi40 ?_
              exact m2_vret h dX12_arrive_99 k
            · replace k := k.2 q39
              refine m2_aload_n hB dX12_arrive_78 rfl ?_
              refine m2_getR hB dX12_arrive_79 fl_X12_29 sh_kM (c1 := kM_where) rfl ?_
              refine m2_iload_n hB dX12_arrive_82 rfl ?_
              have hi41 := hi1
              refine m2_iald hB dX12_arrive_83 sh_kM_where hi41 ?_
              refine m2_aload_n hB dX12_arrive_84 rfl ?_
              refine m2_getR hB dX12_arrive_85 fl_X12_32 sh_kM (c1 := kM_home) rfl ?_
              refine m2_iload_n hB dX12_arrive_88 rfl ?_
              have hi42 := hi1
              refine m2_iald hB dX12_arrive_89 sh_kM_home hi42 ?_
              have G44 : κ 98 [.ref kM, .int x1] [.int (if (μ.1 kM_where (x1).toNatClampNeg) = (μ.1 kM_home (x1).toNatClampNeg) then 1 else 0 : Int32), .int x1, .ref kM_isDone] (m2_si μ kM_wasThere (x1).toNatClampNeg (vp_nar .boolean (if (μ.1 kM_where (x1).toNatClampNeg) = (μ.1 kM_errand (x1).toNatClampNeg) then 1 else 0 : Int32))) := by
                have hi45 := hi1
                refine m2_zast hB dX12_arrive_98 sh_kM_isDone hi45 ?_
                exact m2_vret h dX12_arrive_99 k
              refine m2_icmp_ne hB dX12_arrive_90 (tgt := 97) (by decide) (fun q43 : ¬ (μ.1 kM_where (x1).toNatClampNeg) = (μ.1 kM_home (x1).toNatClampNeg) => ?_) (fun q43 : (μ.1 kM_where (x1).toNatClampNeg) = (μ.1 kM_home (x1).toNatClampNeg) => ?_)
              · rw [if_neg q43] at G44
                refine m2_iconst hB dX12_arrive_97 (v := 0) (by decide) ?_
                exact G44
              · rw [if_pos q43] at G44
                refine m2_iconst hB dX12_arrive_93 (v := 1) (by decide) ?_
                refine m2_goto hB dX12_arrive_94 (tgt := 98) (by decide) ?_
                exact G44
      refine m2_icmp_ne hB dX12_arrive_37 (tgt := 44) (by decide) (fun q26 : ¬ (μ.1 kM_where (x1).toNatClampNeg) = (μ.1 kM_errand (x1).toNatClampNeg) => ?_) (fun q26 : (μ.1 kM_where (x1).toNatClampNeg) = (μ.1 kM_errand (x1).toNatClampNeg) => ?_)
      · rw [if_neg q26] at G27
        refine m2_iconst hB dX12_arrive_44 (v := 0) (by decide) ?_
        exact G27
      · rw [if_pos q26] at G27
        refine m2_iconst hB dX12_arrive_40 (v := 1) (by decide) ?_
        refine m2_goto hB dX12_arrive_41 (tgt := 45) (by decide) ?_
        exact G27
  · replace k := k.2 q2
    exact m2_vret h dX12_arrive_10 k
theorem dX12_held_0 : decode cX12_held 0 = .ok (.aload_n 0, 1) := by decide +kernel
theorem dX12_held_1 : decode cX12_held 1 = .ok (.iload_n 1, 1) := by decide +kernel
theorem dX12_held_2 : decode cX12_held 2 = .ok (.invokevirtual 215, 3) := by decide +kernel
theorem dX12_held_5 : decode cX12_held 5 = .ok (.istore_n 2, 1) := by decide +kernel
theorem dX12_held_6 : decode cX12_held 6 = .ok (.aload_n 0, 1) := by decide +kernel
theorem dX12_held_7 : decode cX12_held 7 = .ok (.bipush 60, 2) := by decide +kernel
theorem dX12_held_9 : decode cX12_held 9 = .ok (.invokevirtual 185, 3) := by decide +kernel
theorem dX12_held_12 : decode cX12_held 12 = .ok (.ifCond .eq 18, 3) := by decide +kernel
theorem dX12_held_15 : decode cX12_held 15 = .ok (.iload_n 2, 1) := by decide +kernel
theorem dX12_held_16 : decode cX12_held 16 = .ok (.aload_n 0, 1) := by decide +kernel
theorem dX12_held_17 : decode cX12_held 17 = .ok (.iload_n 1, 1) := by decide +kernel
theorem dX12_held_18 : decode cX12_held 18 = .ok (.invokevirtual 215, 3) := by decide +kernel
theorem dX12_held_21 : decode cX12_held 21 = .ok (.if_icmp .ge 7, 3) := by decide +kernel
theorem dX12_held_24 : decode cX12_held 24 = .ok (.iconst 1, 1) := by decide +kernel
theorem dX12_held_25 : decode cX12_held 25 = .ok (.goto 4, 3) := by decide +kernel
theorem dX12_held_28 : decode cX12_held 28 = .ok (.iconst 0, 1) := by decide +kernel
theorem dX12_held_29 : decode cX12_held 29 = .ok (.ireturn, 1) := by decide +kernel
theorem dX12_held_30 : decode cX12_held 30 = .ok (.aload_n 0, 1) := by decide +kernel
theorem dX12_held_31 : decode cX12_held 31 = .ok (.bipush 62, 2) := by decide +kernel
theorem dX12_held_33 : decode cX12_held 33 = .ok (.invokevirtual 185, 3) := by decide +kernel
theorem dX12_held_36 : decode cX12_held 36 = .ok (.ifCond .eq 18, 3) := by decide +kernel
theorem dX12_held_39 : decode cX12_held 39 = .ok (.iload_n 2, 1) := by decide +kernel
theorem dX12_held_40 : decode cX12_held 40 = .ok (.aload_n 0, 1) := by decide +kernel
theorem dX12_held_41 : decode cX12_held 41 = .ok (.iload_n 1, 1) := by decide +kernel
theorem dX12_held_42 : decode cX12_held 42 = .ok (.invokevirtual 215, 3) := by decide +kernel
theorem dX12_held_45 : decode cX12_held 45 = .ok (.if_icmp .le 7, 3) := by decide +kernel
theorem dX12_held_48 : decode cX12_held 48 = .ok (.iconst 1, 1) := by decide +kernel
theorem dX12_held_49 : decode cX12_held 49 = .ok (.goto 4, 3) := by decide +kernel
theorem dX12_held_52 : decode cX12_held 52 = .ok (.iconst 0, 1) := by decide +kernel
theorem dX12_held_53 : decode cX12_held 53 = .ok (.ireturn, 1) := by decide +kernel
theorem dX12_held_54 : decode cX12_held 54 = .ok (.aload_n 0, 1) := by decide +kernel
theorem dX12_held_55 : decode cX12_held 55 = .ok (.bipush 61, 2) := by decide +kernel
theorem dX12_held_57 : decode cX12_held 57 = .ok (.invokevirtual 185, 3) := by decide +kernel
theorem dX12_held_60 : decode cX12_held 60 = .ok (.ifCond .eq 18, 3) := by decide +kernel
theorem dX12_held_63 : decode cX12_held 63 = .ok (.iload_n 2, 1) := by decide +kernel
theorem dX12_held_64 : decode cX12_held 64 = .ok (.aload_n 0, 1) := by decide +kernel
theorem dX12_held_65 : decode cX12_held 65 = .ok (.iload_n 1, 1) := by decide +kernel
theorem dX12_held_66 : decode cX12_held 66 = .ok (.invokevirtual 215, 3) := by decide +kernel
theorem dX12_held_69 : decode cX12_held 69 = .ok (.if_icmp .ne 7, 3) := by decide +kernel
theorem dX12_held_72 : decode cX12_held 72 = .ok (.iconst 1, 1) := by decide +kernel
theorem dX12_held_73 : decode cX12_held 73 = .ok (.goto 4, 3) := by decide +kernel
theorem dX12_held_76 : decode cX12_held 76 = .ok (.iconst 0, 1) := by decide +kernel
theorem dX12_held_77 : decode cX12_held 77 = .ok (.ireturn, 1) := by decide +kernel
theorem dX12_held_78 : decode cX12_held 78 = .ok (.iload_n 2, 1) := by decide +kernel
theorem dX12_held_79 : decode cX12_held 79 = .ok (.ireturn, 1) := by decide +kernel
set_option maxRecDepth 100000 in
set_option maxHeartbeats 4000000 in
theorem B_X12_held_0 {κ : Nat → List Value → List Value → m2M → Prop} {D : Nat} {Q : Option Value → m2M → Prop} (h : m2_RL κ cX12_held RX12 3 (D + 1) (some .int) Q) {x1 : Int32} {μ : m2M} (k : ∃ Q3 : Option Value → m2M → Prop, m2_MT D yX12_sum cX12_sum 5 (some .int) [.ref kM, .int x1] μ Q3 ∧ ∀ (y1 : Int32) (μ2 : m2M), Q3 (some (.int y1)) μ2 → (∃ Q8 : Option Value → m2M → Prop, m2_MT D yX12_passes cX12_passes 2 (some .boolean) [.ref kM, .int 60] μ2 Q8 ∧ ∀ (y6 : Int32) (μ7 : m2M), Q8 (some (.int y6)) μ7 → ((y6 = 0 → ∃ Q14 : Option Value → m2M → Prop, m2_MT D yX12_passes cX12_passes 2 (some .boolean) [.ref kM, .int 62] μ7 Q14 ∧ ∀ (y12 : Int32) (μ13 : m2M), Q14 (some (.int y12)) μ13 → ((y12 = 0 → ∃ Q20 : Option Value → m2M → Prop, m2_MT D yX12_passes cX12_passes 2 (some .boolean) [.ref kM, .int 61] μ13 Q20 ∧ ∀ (y18 : Int32) (μ19 : m2M), Q20 (some (.int y18)) μ19 → ((y18 = 0 → Q (some (.int y1)) μ19) ∧ (¬ y18 = 0 → ∃ Q26 : Option Value → m2M → Prop, m2_MT D yX12_sum cX12_sum 5 (some .int) [.ref kM, .int x1] μ19 Q26 ∧ ∀ (y24 : Int32) (μ25 : m2M), Q26 (some (.int y24)) μ25 → (Q (some (.int (if y1 = y24 then 1 else 0 : Int32))) μ25)))) ∧ (¬ y12 = 0 → ∃ Q33 : Option Value → m2M → Prop, m2_MT D yX12_sum cX12_sum 5 (some .int) [.ref kM, .int x1] μ13 Q33 ∧ ∀ (y31 : Int32) (μ32 : m2M), Q33 (some (.int y31)) μ32 → (Q (some (.int (if y1 ≤ y31 then 0 else 1 : Int32))) μ32)))) ∧ (¬ y6 = 0 → ∃ Q40 : Option Value → m2M → Prop, m2_MT D yX12_sum cX12_sum 5 (some .int) [.ref kM, .int x1] μ7 Q40 ∧ ∀ (y38 : Int32) (μ39 : m2M), Q40 (some (.int y38)) μ39 → (Q (some (.int (if y38 ≤ y1 then 0 else 1 : Int32))) μ39))))) : κ 0 [.ref kM, .int x1, .null] [] μ := by
  have hB := h.b
  refine m2_aload_n hB dX12_held_0 rfl ?_
  refine m2_iload_n hB dX12_held_1 rfl ?_
  obtain ⟨Q3, hM4, k⟩ := k
  refine m2_invi hB (as := [.int x1]) dX12_held_2 mv_X12_215 rfl sh_kM rfl (Nat.le_of_ble_eq_true rfl) rfl hM4 (fun y1 μ2 hq5 => ?_)
  replace k := k y1 μ2 hq5
  refine m2_istore_n hB (ls' := [.ref kM, .int x1, .int y1]) dX12_held_5 rfl (by decide) rfl ?_
  refine m2_aload_n hB dX12_held_6 rfl ?_
  refine m2_bipush hB dX12_held_7 (v := 60) (by decide) ?_
  obtain ⟨Q8, hM9, k⟩ := k
  refine m2_invz hB (as := [.int 60]) dX12_held_9 mv_X12_185 rfl sh_kM rfl (Nat.le_of_ble_eq_true rfl) rfl hM9 (fun y6 μ7 hq10 => ?_)
  replace k := k y6 μ7 hq10
  refine m2_if_eq hB dX12_held_12 (tgt := 30) (by decide) (fun q11 : y6 = 0 => ?_) (fun q11 : ¬ y6 = 0 => ?_)
  · replace k := k.1 q11
    refine m2_aload_n hB dX12_held_30 rfl ?_
    refine m2_bipush hB dX12_held_31 (v := 62) (by decide) ?_
    obtain ⟨Q14, hM15, k⟩ := k
    refine m2_invz hB (as := [.int 62]) dX12_held_33 mv_X12_185 rfl sh_kM rfl (Nat.le_of_ble_eq_true rfl) rfl hM15 (fun y12 μ13 hq16 => ?_)
    replace k := k y12 μ13 hq16
    refine m2_if_eq hB dX12_held_36 (tgt := 54) (by decide) (fun q17 : y12 = 0 => ?_) (fun q17 : ¬ y12 = 0 => ?_)
    · replace k := k.1 q17
      refine m2_aload_n hB dX12_held_54 rfl ?_
      refine m2_bipush hB dX12_held_55 (v := 61) (by decide) ?_
      obtain ⟨Q20, hM21, k⟩ := k
      refine m2_invz hB (as := [.int 61]) dX12_held_57 mv_X12_185 rfl sh_kM rfl (Nat.le_of_ble_eq_true rfl) rfl hM21 (fun y18 μ19 hq22 => ?_)
      replace k := k y18 μ19 hq22
      refine m2_if_eq hB dX12_held_60 (tgt := 78) (by decide) (fun q23 : y18 = 0 => ?_) (fun q23 : ¬ y18 = 0 => ?_)
      · replace k := k.1 q23
        refine m2_iload_n hB dX12_held_78 rfl ?_
        exact m2_iret h dX12_held_79 k
      · replace k := k.2 q23
        refine m2_iload_n hB dX12_held_63 rfl ?_
        refine m2_aload_n hB dX12_held_64 rfl ?_
        refine m2_iload_n hB dX12_held_65 rfl ?_
        obtain ⟨Q26, hM27, k⟩ := k
        refine m2_invi hB (as := [.int x1]) dX12_held_66 mv_X12_215 rfl sh_kM rfl (Nat.le_of_ble_eq_true rfl) rfl hM27 (fun y24 μ25 hq28 => ?_)
        replace k := k y24 μ25 hq28
        have G30 : κ 77 [.ref kM, .int x1, .int y1] [.int (if y1 = y24 then 1 else 0 : Int32)] μ25 := by
          exact m2_iret h dX12_held_77 k
        refine m2_icmp_ne hB dX12_held_69 (tgt := 76) (by decide) (fun q29 : ¬ y1 = y24 => ?_) (fun q29 : y1 = y24 => ?_)
        · rw [if_neg q29] at G30
          refine m2_iconst hB dX12_held_76 (v := 0) (by decide) ?_
          exact G30
        · rw [if_pos q29] at G30
          refine m2_iconst hB dX12_held_72 (v := 1) (by decide) ?_
          refine m2_goto hB dX12_held_73 (tgt := 77) (by decide) ?_
          exact G30
    · replace k := k.2 q17
      refine m2_iload_n hB dX12_held_39 rfl ?_
      refine m2_aload_n hB dX12_held_40 rfl ?_
      refine m2_iload_n hB dX12_held_41 rfl ?_
      obtain ⟨Q33, hM34, k⟩ := k
      refine m2_invi hB (as := [.int x1]) dX12_held_42 mv_X12_215 rfl sh_kM rfl (Nat.le_of_ble_eq_true rfl) rfl hM34 (fun y31 μ32 hq35 => ?_)
      replace k := k y31 μ32 hq35
      have G37 : κ 53 [.ref kM, .int x1, .int y1] [.int (if y1 ≤ y31 then 0 else 1 : Int32)] μ32 := by
        exact m2_iret h dX12_held_53 k
      refine m2_icmp_le hB dX12_held_45 (tgt := 52) (by decide) (fun q36 : y1 ≤ y31 => ?_) (fun q36 : ¬ y1 ≤ y31 => ?_)
      · rw [if_pos q36] at G37
        refine m2_iconst hB dX12_held_52 (v := 0) (by decide) ?_
        exact G37
      · rw [if_neg q36] at G37
        refine m2_iconst hB dX12_held_48 (v := 1) (by decide) ?_
        refine m2_goto hB dX12_held_49 (tgt := 53) (by decide) ?_
        exact G37
  · replace k := k.2 q11
    refine m2_iload_n hB dX12_held_15 rfl ?_
    refine m2_aload_n hB dX12_held_16 rfl ?_
    refine m2_iload_n hB dX12_held_17 rfl ?_
    obtain ⟨Q40, hM41, k⟩ := k
    refine m2_invi hB (as := [.int x1]) dX12_held_18 mv_X12_215 rfl sh_kM rfl (Nat.le_of_ble_eq_true rfl) rfl hM41 (fun y38 μ39 hq42 => ?_)
    replace k := k y38 μ39 hq42
    have G44 : κ 29 [.ref kM, .int x1, .int y1] [.int (if y38 ≤ y1 then 0 else 1 : Int32)] μ39 := by
      exact m2_iret h dX12_held_29 k
    refine m2_icmp_ge hB dX12_held_21 (tgt := 28) (by decide) (fun q43 : y38 ≤ y1 => ?_) (fun q43 : ¬ y38 ≤ y1 => ?_)
    · rw [if_pos q43] at G44
      refine m2_iconst hB dX12_held_28 (v := 0) (by decide) ?_
      exact G44
    · rw [if_neg q43] at G44
      refine m2_iconst hB dX12_held_24 (v := 1) (by decide) ?_
      refine m2_goto hB dX12_held_25 (tgt := 29) (by decide) ?_
      exact G44
theorem dX12_sum_0 : decode cX12_sum 0 = .ok (.aload_n 0, 1) := by decide +kernel
theorem dX12_sum_1 : decode cX12_sum 1 = .ok (.iload_n 1, 1) := by decide +kernel
theorem dX12_sum_2 : decode cX12_sum 2 = .ok (.invokevirtual 219, 3) := by decide +kernel
theorem dX12_sum_5 : decode cX12_sum 5 = .ok (.istore_n 2, 1) := by decide +kernel
theorem dX12_sum_6 : decode cX12_sum 6 = .ok (.aload_n 0, 1) := by decide +kernel
theorem dX12_sum_7 : decode cX12_sum 7 = .ok (.invokevirtual 177, 3) := by decide +kernel
theorem dX12_sum_10 : decode cX12_sum 10 = .ok (.ifCond .eq 72, 3) := by decide +kernel
theorem dX12_sum_13 : decode cX12_sum 13 = .ok (.aload_n 0, 1) := by decide +kernel
theorem dX12_sum_14 : decode cX12_sum 14 = .ok (.invokevirtual 181, 3) := by decide +kernel
theorem dX12_sum_17 : decode cX12_sum 17 = .ok (.bipush 43, 2) := by decide +kernel
theorem dX12_sum_19 : decode cX12_sum 19 = .ok (.if_icmp .eq 12, 3) := by decide +kernel
theorem dX12_sum_22 : decode cX12_sum 22 = .ok (.aload_n 0, 1) := by decide +kernel
theorem dX12_sum_23 : decode cX12_sum 23 = .ok (.invokevirtual 181, 3) := by decide +kernel
theorem dX12_sum_26 : decode cX12_sum 26 = .ok (.bipush 45, 2) := by decide +kernel
theorem dX12_sum_28 : decode cX12_sum 28 = .ok (.if_icmp .ne 54, 3) := by decide +kernel
theorem dX12_sum_31 : decode cX12_sum 31 = .ok (.aload_n 0, 1) := by decide +kernel
theorem dX12_sum_32 : decode cX12_sum 32 = .ok (.invokevirtual 181, 3) := by decide +kernel
theorem dX12_sum_35 : decode cX12_sum 35 = .ok (.bipush 43, 2) := by decide +kernel
theorem dX12_sum_37 : decode cX12_sum 37 = .ok (.if_icmp .ne 7, 3) := by decide +kernel
theorem dX12_sum_40 : decode cX12_sum 40 = .ok (.iconst 1, 1) := by decide +kernel
theorem dX12_sum_41 : decode cX12_sum 41 = .ok (.goto 4, 3) := by decide +kernel
theorem dX12_sum_44 : decode cX12_sum 44 = .ok (.iconst 0, 1) := by decide +kernel
theorem dX12_sum_45 : decode cX12_sum 45 = .ok (.istore_n 3, 1) := by decide +kernel
theorem dX12_sum_46 : decode cX12_sum 46 = .ok (.aload_n 0, 1) := by decide +kernel
theorem dX12_sum_47 : decode cX12_sum 47 = .ok (.dup, 1) := by decide +kernel
theorem dX12_sum_48 : decode cX12_sum 48 = .ok (.getfield 171, 3) := by decide +kernel
theorem dX12_sum_51 : decode cX12_sum 51 = .ok (.iconst 1, 1) := by decide +kernel
theorem dX12_sum_52 : decode cX12_sum 52 = .ok (.iadd, 1) := by decide +kernel
theorem dX12_sum_53 : decode cX12_sum 53 = .ok (.putfield 171, 3) := by decide +kernel
theorem dX12_sum_56 : decode cX12_sum 56 = .ok (.aload_n 0, 1) := by decide +kernel
theorem dX12_sum_57 : decode cX12_sum 57 = .ok (.iload_n 1, 1) := by decide +kernel
theorem dX12_sum_58 : decode cX12_sum 58 = .ok (.invokevirtual 219, 3) := by decide +kernel
theorem dX12_sum_61 : decode cX12_sum 61 = .ok (.istore 4, 2) := by decide +kernel
theorem dX12_sum_63 : decode cX12_sum 63 = .ok (.iload_n 3, 1) := by decide +kernel
theorem dX12_sum_64 : decode cX12_sum 64 = .ok (.ifCond .eq 10, 3) := by decide +kernel
theorem dX12_sum_67 : decode cX12_sum 67 = .ok (.iload_n 2, 1) := by decide +kernel
theorem dX12_sum_68 : decode cX12_sum 68 = .ok (.iload 4, 2) := by decide +kernel
theorem dX12_sum_70 : decode cX12_sum 70 = .ok (.iadd, 1) := by decide +kernel
theorem dX12_sum_71 : decode cX12_sum 71 = .ok (.goto 7, 3) := by decide +kernel
theorem dX12_sum_74 : decode cX12_sum 74 = .ok (.iload_n 2, 1) := by decide +kernel
theorem dX12_sum_75 : decode cX12_sum 75 = .ok (.iload 4, 2) := by decide +kernel
theorem dX12_sum_77 : decode cX12_sum 77 = .ok (.isub, 1) := by decide +kernel
theorem dX12_sum_78 : decode cX12_sum 78 = .ok (.istore_n 2, 1) := by decide +kernel
theorem dX12_sum_79 : decode cX12_sum 79 = .ok (.goto (-73), 3) := by decide +kernel
theorem dX12_sum_82 : decode cX12_sum 82 = .ok (.iload_n 2, 1) := by decide +kernel
theorem dX12_sum_83 : decode cX12_sum 83 = .ok (.ireturn, 1) := by decide +kernel
set_option maxRecDepth 100000 in
set_option maxHeartbeats 4000000 in
theorem B_X12_sum_0 {κ : Nat → List Value → List Value → m2M → Prop} {D : Nat} {Q : Option Value → m2M → Prop} (h : m2_RL κ cX12_sum RX12 5 (D + 1) (some .int) Q) {x1 : Int32} {μ : m2M} (k : ∃ Q3 : Option Value → m2M → Prop, m2_MT D yX12_product cX12_product 3 (some .int) [.ref kM, .int x1] μ Q3 ∧ ∀ (y1 : Int32) (μ2 : m2M), Q3 (some (.int y1)) μ2 → (κ 6 [.ref kM, .int x1, .int y1, .null, .null] [] μ2)) : κ 0 [.ref kM, .int x1, .null, .null, .null] [] μ := by
  have hB := h.b
  refine m2_aload_n hB dX12_sum_0 rfl ?_
  refine m2_iload_n hB dX12_sum_1 rfl ?_
  obtain ⟨Q3, hM4, k⟩ := k
  refine m2_invi hB (as := [.int x1]) dX12_sum_2 mv_X12_219 rfl sh_kM rfl (Nat.le_of_ble_eq_true rfl) rfl hM4 (fun y1 μ2 hq5 => ?_)
  replace k := k y1 μ2 hq5
  refine m2_istore_n hB (ls' := [.ref kM, .int x1, .int y1, .null, .null]) dX12_sum_5 rfl (by decide) rfl ?_
  exact k
set_option maxRecDepth 100000 in
set_option maxHeartbeats 4000000 in
theorem B_X12_sum_6 {κ : Nat → List Value → List Value → m2M → Prop} {D : Nat} {Q : Option Value → m2M → Prop} (h : m2_RL κ cX12_sum RX12 5 (D + 1) (some .int) Q) (hD : 0 ≤ D) {v1 : Int32} {v2 : Int32} {μ : m2M} (k : ((fX12_fine μ) = 1 → ∃ Q7 : Option Value → m2M → Prop, m2_MT D yX12_here cX12_here 1 (some .int) [.ref kM] μ Q7 ∧ ∀ (y5 : Int32) (μ6 : m2M), Q7 (some (.int y5)) μ6 → ((y5 = 43 → ∃ Q13 : Option Value → m2M → Prop, m2_MT D yX12_here cX12_here 1 (some .int) [.ref kM] μ6 Q13 ∧ ∀ (y11 : Int32) (μ12 : m2M), Q13 (some (.int y11)) μ12 → (∃ Q20 : Option Value → m2M → Prop, m2_MT D yX12_product cX12_product 3 (some .int) [.ref kM, .int v1] (m2_si μ12 kM 26 ((μ12.1 kM 26) + 1)) Q20 ∧ ∀ (y18 : Int32) (μ19 : m2M), Q20 (some (.int y18)) μ19 → ((y11 = 43 → κ 6 [.ref kM, .int v1, .int (v2 + y18), .null, .null] [] μ19) ∧ (¬ y11 = 43 → κ 6 [.ref kM, .int v1, .int (v2 - y18), .null, .null] [] μ19)))) ∧ (¬ y5 = 43 → ∃ Q26 : Option Value → m2M → Prop, m2_MT D yX12_here cX12_here 1 (some .int) [.ref kM] μ6 Q26 ∧ ∀ (y24 : Int32) (μ25 : m2M), Q26 (some (.int y24)) μ25 → ((¬ y24 = 45 → Q (some (.int v2)) μ25) ∧ (y24 = 45 → ∃ Q32 : Option Value → m2M → Prop, m2_MT D yX12_here cX12_here 1 (some .int) [.ref kM] μ25 Q32 ∧ ∀ (y30 : Int32) (μ31 : m2M), Q32 (some (.int y30)) μ31 → (∃ Q39 : Option Value → m2M → Prop, m2_MT D yX12_product cX12_product 3 (some .int) [.ref kM, .int v1] (m2_si μ31 kM 26 ((μ31.1 kM 26) + 1)) Q39 ∧ ∀ (y37 : Int32) (μ38 : m2M), Q39 (some (.int y37)) μ38 → ((y30 = 43 → κ 6 [.ref kM, .int v1, .int (v2 + y37), .null, .null] [] μ38) ∧ (¬ y30 = 43 → κ 6 [.ref kM, .int v1, .int (v2 - y37), .null, .null] [] μ38)))))))) ∧ (¬ (fX12_fine μ) = 1 → Q (some (.int v2)) μ)) : κ 6 [.ref kM, .int v1, .int v2, .null, .null] [] μ := by
  have hB := h.b
  refine m2_aload_n hB dX12_sum_6 rfl ?_
  refine m2_invz hB (as := []) dX12_sum_7 mv_X12_177 rfl sh_kM rfl (Nat.le_of_ble_eq_true rfl) rfl (P_X12_fine (by omega)  _ ) (fun y1 μ2 hq3 => ?_)
  obtain ⟨⟨⟩, hq3⟩ := hq3
  subst μ2
  show κ 10 [.ref kM, .int v1, .int v2, .null, .null] [.int (if (fX12_fine μ) = 1 then 1 else 0 : Int32)] μ
  by_cases q4 : (fX12_fine μ) = 1
  · rw [if_pos q4]
    replace k := k.1 q4
    refine m2_if_eq hB dX12_sum_10 (tgt := 82) (by decide) (fun q => absurd q (by decide)) (fun _ => ?_)
    refine m2_aload_n hB dX12_sum_13 rfl ?_
    obtain ⟨Q7, hM8, k⟩ := k
    refine m2_invi hB (as := []) dX12_sum_14 mv_X12_181 rfl sh_kM rfl (Nat.le_of_ble_eq_true rfl) rfl hM8 (fun y5 μ6 hq9 => ?_)
    replace k := k y5 μ6 hq9
    refine m2_bipush hB dX12_sum_17 (v := 43) (by decide) ?_
    refine m2_icmp_eq hB dX12_sum_19 (tgt := 31) (by decide) (fun q10 : y5 = 43 => ?_) (fun q10 : ¬ y5 = 43 => ?_)
    · replace k := k.1 q10
      refine m2_aload_n hB dX12_sum_31 rfl ?_
      obtain ⟨Q13, hM14, k⟩ := k
      refine m2_invi hB (as := []) dX12_sum_32 mv_X12_181 rfl sh_kM rfl (Nat.le_of_ble_eq_true rfl) rfl hM14 (fun y11 μ12 hq15 => ?_)
      replace k := k y11 μ12 hq15
      refine m2_bipush hB dX12_sum_35 (v := 43) (by decide) ?_
      have G17 : κ 45 [.ref kM, .int v1, .int v2, .null, .null] [.int (if y11 = 43 then 1 else 0 : Int32)] μ12 := by
        refine m2_istore_n hB (ls' := [.ref kM, .int v1, .int v2, .int (if y11 = 43 then 1 else 0 : Int32), .null]) dX12_sum_45 rfl (by decide) rfl ?_
        refine m2_aload_n hB dX12_sum_46 rfl ?_
        refine m2_dup hB dX12_sum_47 rfl ?_
        refine m2_getI hB dX12_sum_48 fl_X12_171 sh_kM rfl ?_
        refine m2_iconst hB dX12_sum_51 (v := 1) (by decide) ?_
        refine m2_iadd hB dX12_sum_52 ?_
        refine m2_putI hB dX12_sum_53 fl_X12_171 sh_kM rfl ?_
        refine m2_aload_n hB dX12_sum_56 rfl ?_
        refine m2_iload_n hB dX12_sum_57 rfl ?_
        obtain ⟨Q20, hM21, k⟩ := k
        refine m2_invi hB (as := [.int v1]) dX12_sum_58 mv_X12_219 rfl sh_kM rfl (Nat.le_of_ble_eq_true rfl) rfl hM21 (fun y18 μ19 hq22 => ?_)
        replace k := k y18 μ19 hq22
        refine m2_istore hB (ls' := [.ref kM, .int v1, .int v2, .int (if y11 = 43 then 1 else 0 : Int32), .int y18]) dX12_sum_61 (by decide) rfl ?_
        refine m2_iload_n hB dX12_sum_63 rfl ?_
        show κ 64 [.ref kM, .int v1, .int v2, .int (if y11 = 43 then 1 else 0 : Int32), .int y18] [.int (if y11 = 43 then 1 else 0 : Int32)] μ19
        by_cases q23 : y11 = 43
        · rw [if_pos q23]
          replace k := k.1 q23
          refine m2_if_eq hB dX12_sum_64 (tgt := 74) (by decide) (fun q => absurd q (by decide)) (fun _ => ?_)
          refine m2_iload_n hB dX12_sum_67 rfl ?_
          refine m2_iload hB dX12_sum_68 rfl ?_
          refine m2_iadd hB dX12_sum_70 ?_
          refine m2_goto hB dX12_sum_71 (tgt := 78) (by decide) ?_
          refine m2_istore_n hB (ls' := [.ref kM, .int v1, .int (v2 + y18), .int 1, .int y18]) dX12_sum_78 rfl (by decide) rfl ?_
          refine m2_goto hB dX12_sum_79 (tgt := 6) (by decide) ?_
          exact m2_weak (ls' := [.ref kM, .int v1, .int (v2 + y18), .null, .null]) hB ⟨Or.inr rfl, Or.inr rfl, Or.inr rfl, Or.inl rfl, Or.inl rfl, trivial⟩ k
        · rw [if_neg q23]
          replace k := k.2 q23
          refine m2_if_eq hB dX12_sum_64 (tgt := 74) (by decide) (fun _ => ?_) (fun q => absurd q (by decide))
          refine m2_iload_n hB dX12_sum_74 rfl ?_
          refine m2_iload hB dX12_sum_75 rfl ?_
          refine m2_isub hB dX12_sum_77 ?_
          refine m2_istore_n hB (ls' := [.ref kM, .int v1, .int (v2 - y18), .int 0, .int y18]) dX12_sum_78 rfl (by decide) rfl ?_
          refine m2_goto hB dX12_sum_79 (tgt := 6) (by decide) ?_
          exact m2_weak (ls' := [.ref kM, .int v1, .int (v2 - y18), .null, .null]) hB ⟨Or.inr rfl, Or.inr rfl, Or.inr rfl, Or.inl rfl, Or.inl rfl, trivial⟩ k
      refine m2_icmp_ne hB dX12_sum_37 (tgt := 44) (by decide) (fun q16 : ¬ y11 = 43 => ?_) (fun q16 : y11 = 43 => ?_)
      · rw [if_neg q16] at G17
        refine m2_iconst hB dX12_sum_44 (v := 0) (by decide) ?_
        exact G17
      · rw [if_pos q16] at G17
        refine m2_iconst hB dX12_sum_40 (v := 1) (by decide) ?_
        refine m2_goto hB dX12_sum_41 (tgt := 45) (by decide) ?_
        exact G17
    · replace k := k.2 q10
      refine m2_aload_n hB dX12_sum_22 rfl ?_
      obtain ⟨Q26, hM27, k⟩ := k
      refine m2_invi hB (as := []) dX12_sum_23 mv_X12_181 rfl sh_kM rfl (Nat.le_of_ble_eq_true rfl) rfl hM27 (fun y24 μ25 hq28 => ?_)
      replace k := k y24 μ25 hq28
      refine m2_bipush hB dX12_sum_26 (v := 45) (by decide) ?_
      refine m2_icmp_ne hB dX12_sum_28 (tgt := 82) (by decide) (fun q29 : ¬ y24 = 45 => ?_) (fun q29 : y24 = 45 => ?_)
      · replace k := k.1 q29
        refine m2_iload_n hB dX12_sum_82 rfl ?_
        exact m2_iret h dX12_sum_83 k
      · replace k := k.2 q29
        refine m2_aload_n hB dX12_sum_31 rfl ?_
        obtain ⟨Q32, hM33, k⟩ := k
        refine m2_invi hB (as := []) dX12_sum_32 mv_X12_181 rfl sh_kM rfl (Nat.le_of_ble_eq_true rfl) rfl hM33 (fun y30 μ31 hq34 => ?_)
        replace k := k y30 μ31 hq34
        refine m2_bipush hB dX12_sum_35 (v := 43) (by decide) ?_
        have G36 : κ 45 [.ref kM, .int v1, .int v2, .null, .null] [.int (if y30 = 43 then 1 else 0 : Int32)] μ31 := by
          refine m2_istore_n hB (ls' := [.ref kM, .int v1, .int v2, .int (if y30 = 43 then 1 else 0 : Int32), .null]) dX12_sum_45 rfl (by decide) rfl ?_
          refine m2_aload_n hB dX12_sum_46 rfl ?_
          refine m2_dup hB dX12_sum_47 rfl ?_
          refine m2_getI hB dX12_sum_48 fl_X12_171 sh_kM rfl ?_
          refine m2_iconst hB dX12_sum_51 (v := 1) (by decide) ?_
          refine m2_iadd hB dX12_sum_52 ?_
          refine m2_putI hB dX12_sum_53 fl_X12_171 sh_kM rfl ?_
          refine m2_aload_n hB dX12_sum_56 rfl ?_
          refine m2_iload_n hB dX12_sum_57 rfl ?_
          obtain ⟨Q39, hM40, k⟩ := k
          refine m2_invi hB (as := [.int v1]) dX12_sum_58 mv_X12_219 rfl sh_kM rfl (Nat.le_of_ble_eq_true rfl) rfl hM40 (fun y37 μ38 hq41 => ?_)
          replace k := k y37 μ38 hq41
          refine m2_istore hB (ls' := [.ref kM, .int v1, .int v2, .int (if y30 = 43 then 1 else 0 : Int32), .int y37]) dX12_sum_61 (by decide) rfl ?_
          refine m2_iload_n hB dX12_sum_63 rfl ?_
          show κ 64 [.ref kM, .int v1, .int v2, .int (if y30 = 43 then 1 else 0 : Int32), .int y37] [.int (if y30 = 43 then 1 else 0 : Int32)] μ38
          by_cases q42 : y30 = 43
          · rw [if_pos q42]
            replace k := k.1 q42
            refine m2_if_eq hB dX12_sum_64 (tgt := 74) (by decide) (fun q => absurd q (by decide)) (fun _ => ?_)
            refine m2_iload_n hB dX12_sum_67 rfl ?_
            refine m2_iload hB dX12_sum_68 rfl ?_
            refine m2_iadd hB dX12_sum_70 ?_
            refine m2_goto hB dX12_sum_71 (tgt := 78) (by decide) ?_
            refine m2_istore_n hB (ls' := [.ref kM, .int v1, .int (v2 + y37), .int 1, .int y37]) dX12_sum_78 rfl (by decide) rfl ?_
            refine m2_goto hB dX12_sum_79 (tgt := 6) (by decide) ?_
            exact m2_weak (ls' := [.ref kM, .int v1, .int (v2 + y37), .null, .null]) hB ⟨Or.inr rfl, Or.inr rfl, Or.inr rfl, Or.inl rfl, Or.inl rfl, trivial⟩ k
          · rw [if_neg q42]
            replace k := k.2 q42
            refine m2_if_eq hB dX12_sum_64 (tgt := 74) (by decide) (fun _ => ?_) (fun q => absurd q (by decide))
            refine m2_iload_n hB dX12_sum_74 rfl ?_
            refine m2_iload hB dX12_sum_75 rfl ?_
            refine m2_isub hB dX12_sum_77 ?_
            refine m2_istore_n hB (ls' := [.ref kM, .int v1, .int (v2 - y37), .int 0, .int y37]) dX12_sum_78 rfl (by decide) rfl ?_
            refine m2_goto hB dX12_sum_79 (tgt := 6) (by decide) ?_
            exact m2_weak (ls' := [.ref kM, .int v1, .int (v2 - y37), .null, .null]) hB ⟨Or.inr rfl, Or.inr rfl, Or.inr rfl, Or.inl rfl, Or.inl rfl, trivial⟩ k
        refine m2_icmp_ne hB dX12_sum_37 (tgt := 44) (by decide) (fun q35 : ¬ y30 = 43 => ?_) (fun q35 : y30 = 43 => ?_)
        · rw [if_neg q35] at G36
          refine m2_iconst hB dX12_sum_44 (v := 0) (by decide) ?_
          exact G36
        · rw [if_pos q35] at G36
          refine m2_iconst hB dX12_sum_40 (v := 1) (by decide) ?_
          refine m2_goto hB dX12_sum_41 (tgt := 45) (by decide) ?_
          exact G36
  · rw [if_neg q4]
    replace k := k.2 q4
    refine m2_if_eq hB dX12_sum_10 (tgt := 82) (by decide) (fun _ => ?_) (fun q => absurd q (by decide))
    refine m2_iload_n hB dX12_sum_82 rfl ?_
    exact m2_iret h dX12_sum_83 k
theorem dX12_product_0 : decode cX12_product 0 = .ok (.aload_n 0, 1) := by decide +kernel
theorem dX12_product_1 : decode cX12_product 1 = .ok (.iload_n 1, 1) := by decide +kernel
theorem dX12_product_2 : decode cX12_product 2 = .ok (.invokevirtual 222, 3) := by decide +kernel
theorem dX12_product_5 : decode cX12_product 5 = .ok (.istore_n 2, 1) := by decide +kernel
theorem dX12_product_6 : decode cX12_product 6 = .ok (.aload_n 0, 1) := by decide +kernel
theorem dX12_product_7 : decode cX12_product 7 = .ok (.bipush 42, 2) := by decide +kernel
theorem dX12_product_9 : decode cX12_product 9 = .ok (.invokevirtual 185, 3) := by decide +kernel
theorem dX12_product_12 : decode cX12_product 12 = .ok (.ifCond .eq 14, 3) := by decide +kernel
theorem dX12_product_15 : decode cX12_product 15 = .ok (.iload_n 2, 1) := by decide +kernel
theorem dX12_product_16 : decode cX12_product 16 = .ok (.aload_n 0, 1) := by decide +kernel
theorem dX12_product_17 : decode cX12_product 17 = .ok (.iload_n 1, 1) := by decide +kernel
theorem dX12_product_18 : decode cX12_product 18 = .ok (.invokevirtual 222, 3) := by decide +kernel
theorem dX12_product_21 : decode cX12_product 21 = .ok (.imul, 1) := by decide +kernel
theorem dX12_product_22 : decode cX12_product 22 = .ok (.istore_n 2, 1) := by decide +kernel
theorem dX12_product_23 : decode cX12_product 23 = .ok (.goto (-17), 3) := by decide +kernel
theorem dX12_product_26 : decode cX12_product 26 = .ok (.iload_n 2, 1) := by decide +kernel
theorem dX12_product_27 : decode cX12_product 27 = .ok (.ireturn, 1) := by decide +kernel
set_option maxRecDepth 100000 in
set_option maxHeartbeats 4000000 in
theorem B_X12_product_0 {κ : Nat → List Value → List Value → m2M → Prop} {D : Nat} {Q : Option Value → m2M → Prop} (h : m2_RL κ cX12_product RX12 3 (D + 1) (some .int) Q) {x1 : Int32} {μ : m2M} (k : ∃ Q3 : Option Value → m2M → Prop, m2_MT D yX12_thing cX12_thing 4 (some .int) [.ref kM, .int x1] μ Q3 ∧ ∀ (y1 : Int32) (μ2 : m2M), Q3 (some (.int y1)) μ2 → (κ 6 [.ref kM, .int x1, .int y1] [] μ2)) : κ 0 [.ref kM, .int x1, .null] [] μ := by
  have hB := h.b
  refine m2_aload_n hB dX12_product_0 rfl ?_
  refine m2_iload_n hB dX12_product_1 rfl ?_
  obtain ⟨Q3, hM4, k⟩ := k
  refine m2_invi hB (as := [.int x1]) dX12_product_2 mv_X12_222 rfl sh_kM rfl (Nat.le_of_ble_eq_true rfl) rfl hM4 (fun y1 μ2 hq5 => ?_)
  replace k := k y1 μ2 hq5
  refine m2_istore_n hB (ls' := [.ref kM, .int x1, .int y1]) dX12_product_5 rfl (by decide) rfl ?_
  exact k
set_option maxRecDepth 100000 in
set_option maxHeartbeats 4000000 in
theorem B_X12_product_6 {κ : Nat → List Value → List Value → m2M → Prop} {D : Nat} {Q : Option Value → m2M → Prop} (h : m2_RL κ cX12_product RX12 3 (D + 1) (some .int) Q) {v1 : Int32} {v2 : Int32} {μ : m2M} (k : ∃ Q3 : Option Value → m2M → Prop, m2_MT D yX12_passes cX12_passes 2 (some .boolean) [.ref kM, .int 42] μ Q3 ∧ ∀ (y1 : Int32) (μ2 : m2M), Q3 (some (.int y1)) μ2 → ((y1 = 0 → Q (some (.int v2)) μ2) ∧ (¬ y1 = 0 → ∃ Q9 : Option Value → m2M → Prop, m2_MT D yX12_thing cX12_thing 4 (some .int) [.ref kM, .int v1] μ2 Q9 ∧ ∀ (y7 : Int32) (μ8 : m2M), Q9 (some (.int y7)) μ8 → (κ 6 [.ref kM, .int v1, .int (v2 * y7)] [] μ8)))) : κ 6 [.ref kM, .int v1, .int v2] [] μ := by
  have hB := h.b
  refine m2_aload_n hB dX12_product_6 rfl ?_
  refine m2_bipush hB dX12_product_7 (v := 42) (by decide) ?_
  obtain ⟨Q3, hM4, k⟩ := k
  refine m2_invz hB (as := [.int 42]) dX12_product_9 mv_X12_185 rfl sh_kM rfl (Nat.le_of_ble_eq_true rfl) rfl hM4 (fun y1 μ2 hq5 => ?_)
  replace k := k y1 μ2 hq5
  refine m2_if_eq hB dX12_product_12 (tgt := 26) (by decide) (fun q6 : y1 = 0 => ?_) (fun q6 : ¬ y1 = 0 => ?_)
  · replace k := k.1 q6
    refine m2_iload_n hB dX12_product_26 rfl ?_
    exact m2_iret h dX12_product_27 k
  · replace k := k.2 q6
    refine m2_iload_n hB dX12_product_15 rfl ?_
    refine m2_aload_n hB dX12_product_16 rfl ?_
    refine m2_iload_n hB dX12_product_17 rfl ?_
    obtain ⟨Q9, hM10, k⟩ := k
    refine m2_invi hB (as := [.int v1]) dX12_product_18 mv_X12_222 rfl sh_kM rfl (Nat.le_of_ble_eq_true rfl) rfl hM10 (fun y7 μ8 hq11 => ?_)
    replace k := k y7 μ8 hq11
    refine m2_imul hB dX12_product_21 ?_
    refine m2_istore_n hB (ls' := [.ref kM, .int v1, .int (v2 * y7)]) dX12_product_22 rfl (by decide) rfl ?_
    refine m2_goto hB dX12_product_23 (tgt := 6) (by decide) ?_
    exact k
theorem dX12_thing_0 : decode cX12_thing 0 = .ok (.aload_n 0, 1) := by decide +kernel
theorem dX12_thing_1 : decode cX12_thing 1 = .ok (.bipush 45, 2) := by decide +kernel
theorem dX12_thing_3 : decode cX12_thing 3 = .ok (.invokevirtual 185, 3) := by decide +kernel
theorem dX12_thing_6 : decode cX12_thing 6 = .ok (.ifCond .eq 10, 3) := by decide +kernel
theorem dX12_thing_9 : decode cX12_thing 9 = .ok (.aload_n 0, 1) := by decide +kernel
theorem dX12_thing_10 : decode cX12_thing 10 = .ok (.iload_n 1, 1) := by decide +kernel
theorem dX12_thing_11 : decode cX12_thing 11 = .ok (.invokevirtual 222, 3) := by decide +kernel
theorem dX12_thing_14 : decode cX12_thing 14 = .ok (.ineg, 1) := by decide +kernel
theorem dX12_thing_15 : decode cX12_thing 15 = .ok (.ireturn, 1) := by decide +kernel
theorem dX12_thing_16 : decode cX12_thing 16 = .ok (.aload_n 0, 1) := by decide +kernel
theorem dX12_thing_17 : decode cX12_thing 17 = .ok (.invokevirtual 177, 3) := by decide +kernel
theorem dX12_thing_20 : decode cX12_thing 20 = .ok (.ifCond .ne 5, 3) := by decide +kernel
theorem dX12_thing_23 : decode cX12_thing 23 = .ok (.iconst 0, 1) := by decide +kernel
theorem dX12_thing_24 : decode cX12_thing 24 = .ok (.ireturn, 1) := by decide +kernel
theorem dX12_thing_25 : decode cX12_thing 25 = .ok (.aload_n 0, 1) := by decide +kernel
theorem dX12_thing_26 : decode cX12_thing 26 = .ok (.invokevirtual 181, 3) := by decide +kernel
theorem dX12_thing_29 : decode cX12_thing 29 = .ok (.istore_n 2, 1) := by decide +kernel
theorem dX12_thing_30 : decode cX12_thing 30 = .ok (.iload_n 2, 1) := by decide +kernel
theorem dX12_thing_31 : decode cX12_thing 31 = .ok (.bipush 40, 2) := by decide +kernel
theorem dX12_thing_33 : decode cX12_thing 33 = .ok (.if_icmp .ne 34, 3) := by decide +kernel
theorem dX12_thing_36 : decode cX12_thing 36 = .ok (.iload_n 1, 1) := by decide +kernel
theorem dX12_thing_37 : decode cX12_thing 37 = .ok (.iconst 4, 1) := by decide +kernel
theorem dX12_thing_38 : decode cX12_thing 38 = .ok (.if_icmp .ge 29, 3) := by decide +kernel
theorem dX12_thing_41 : decode cX12_thing 41 = .ok (.aload_n 0, 1) := by decide +kernel
theorem dX12_thing_42 : decode cX12_thing 42 = .ok (.dup, 1) := by decide +kernel
theorem dX12_thing_43 : decode cX12_thing 43 = .ok (.getfield 171, 3) := by decide +kernel
theorem dX12_thing_46 : decode cX12_thing 46 = .ok (.iconst 1, 1) := by decide +kernel
theorem dX12_thing_47 : decode cX12_thing 47 = .ok (.iadd, 1) := by decide +kernel
theorem dX12_thing_48 : decode cX12_thing 48 = .ok (.putfield 171, 3) := by decide +kernel
theorem dX12_thing_51 : decode cX12_thing 51 = .ok (.aload_n 0, 1) := by decide +kernel
theorem dX12_thing_52 : decode cX12_thing 52 = .ok (.iload_n 1, 1) := by decide +kernel
theorem dX12_thing_53 : decode cX12_thing 53 = .ok (.iconst 1, 1) := by decide +kernel
theorem dX12_thing_54 : decode cX12_thing 54 = .ok (.iadd, 1) := by decide +kernel
theorem dX12_thing_55 : decode cX12_thing 55 = .ok (.invokevirtual 225, 3) := by decide +kernel
theorem dX12_thing_58 : decode cX12_thing 58 = .ok (.istore_n 3, 1) := by decide +kernel
theorem dX12_thing_59 : decode cX12_thing 59 = .ok (.aload_n 0, 1) := by decide +kernel
theorem dX12_thing_60 : decode cX12_thing 60 = .ok (.bipush 41, 2) := by decide +kernel
theorem dX12_thing_62 : decode cX12_thing 62 = .ok (.invokevirtual 208, 3) := by decide +kernel
theorem dX12_thing_65 : decode cX12_thing 65 = .ok (.iload_n 3, 1) := by decide +kernel
theorem dX12_thing_66 : decode cX12_thing 66 = .ok (.ireturn, 1) := by decide +kernel
theorem dX12_thing_67 : decode cX12_thing 67 = .ok (.iload_n 2, 1) := by decide +kernel
theorem dX12_thing_68 : decode cX12_thing 68 = .ok (.bipush 48, 2) := by decide +kernel
theorem dX12_thing_70 : decode cX12_thing 70 = .ok (.bipush 57, 2) := by decide +kernel
theorem dX12_thing_72 : decode cX12_thing 72 = .ok (.invokestatic 149, 3) := by decide +kernel
theorem dX12_thing_75 : decode cX12_thing 75 = .ok (.ifCond .eq 12, 3) := by decide +kernel
theorem dX12_thing_78 : decode cX12_thing 78 = .ok (.aload_n 0, 1) := by decide +kernel
theorem dX12_thing_79 : decode cX12_thing 79 = .ok (.iconst 3, 1) := by decide +kernel
theorem dX12_thing_80 : decode cX12_thing 80 = .ok (.sipush 999, 3) := by decide +kernel
theorem dX12_thing_83 : decode cX12_thing 83 = .ok (.invokevirtual 204, 3) := by decide +kernel
theorem dX12_thing_86 : decode cX12_thing 86 = .ok (.ireturn, 1) := by decide +kernel
theorem dX12_thing_87 : decode cX12_thing 87 = .ok (.iload_n 2, 1) := by decide +kernel
theorem dX12_thing_88 : decode cX12_thing 88 = .ok (.bipush 108, 2) := by decide +kernel
theorem dX12_thing_90 : decode cX12_thing 90 = .ok (.if_icmp .eq 43, 3) := by decide +kernel
theorem dX12_thing_93 : decode cX12_thing 93 = .ok (.iload_n 2, 1) := by decide +kernel
theorem dX12_thing_94 : decode cX12_thing 94 = .ok (.bipush 109, 2) := by decide +kernel
theorem dX12_thing_96 : decode cX12_thing 96 = .ok (.if_icmp .eq 37, 3) := by decide +kernel
theorem dX12_thing_99 : decode cX12_thing 99 = .ok (.iload_n 2, 1) := by decide +kernel
theorem dX12_thing_100 : decode cX12_thing 100 = .ok (.bipush 111, 2) := by decide +kernel
theorem dX12_thing_102 : decode cX12_thing 102 = .ok (.if_icmp .eq 31, 3) := by decide +kernel
theorem dX12_thing_105 : decode cX12_thing 105 = .ok (.iload_n 2, 1) := by decide +kernel
theorem dX12_thing_106 : decode cX12_thing 106 = .ok (.bipush 104, 2) := by decide +kernel
theorem dX12_thing_108 : decode cX12_thing 108 = .ok (.if_icmp .eq 25, 3) := by decide +kernel
theorem dX12_thing_111 : decode cX12_thing 111 = .ok (.iload_n 2, 1) := by decide +kernel
theorem dX12_thing_112 : decode cX12_thing 112 = .ok (.bipush 119, 2) := by decide +kernel
theorem dX12_thing_114 : decode cX12_thing 114 = .ok (.if_icmp .eq 19, 3) := by decide +kernel
theorem dX12_thing_117 : decode cX12_thing 117 = .ok (.iload_n 2, 1) := by decide +kernel
theorem dX12_thing_118 : decode cX12_thing 118 = .ok (.bipush 107, 2) := by decide +kernel
theorem dX12_thing_120 : decode cX12_thing 120 = .ok (.if_icmp .eq 13, 3) := by decide +kernel
theorem dX12_thing_123 : decode cX12_thing 123 = .ok (.aload_n 0, 1) := by decide +kernel
theorem dX12_thing_124 : decode cX12_thing 124 = .ok (.aload_n 0, 1) := by decide +kernel
theorem dX12_thing_125 : decode cX12_thing 125 = .ok (.getfield 171, 3) := by decide +kernel
theorem dX12_thing_128 : decode cX12_thing 128 = .ok (.invokevirtual 189, 3) := by decide +kernel
theorem dX12_thing_131 : decode cX12_thing 131 = .ok (.iconst 0, 1) := by decide +kernel
theorem dX12_thing_132 : decode cX12_thing 132 = .ok (.ireturn, 1) := by decide +kernel
theorem dX12_thing_133 : decode cX12_thing 133 = .ok (.aload_n 0, 1) := by decide +kernel
theorem dX12_thing_134 : decode cX12_thing 134 = .ok (.dup, 1) := by decide +kernel
theorem dX12_thing_135 : decode cX12_thing 135 = .ok (.getfield 171, 3) := by decide +kernel
theorem dX12_thing_138 : decode cX12_thing 138 = .ok (.iconst 1, 1) := by decide +kernel
theorem dX12_thing_139 : decode cX12_thing 139 = .ok (.iadd, 1) := by decide +kernel
theorem dX12_thing_140 : decode cX12_thing 140 = .ok (.putfield 171, 3) := by decide +kernel
theorem dX12_thing_143 : decode cX12_thing 143 = .ok (.aload_n 0, 1) := by decide +kernel
theorem dX12_thing_144 : decode cX12_thing 144 = .ok (.getfield 68, 3) := by decide +kernel
theorem dX12_thing_147 : decode cX12_thing 147 = .ok (.iconst (-1), 1) := by decide +kernel
theorem dX12_thing_148 : decode cX12_thing 148 = .ok (.if_icmp .ne 5, 3) := by decide +kernel
theorem dX12_thing_151 : decode cX12_thing 151 = .ok (.iconst 0, 1) := by decide +kernel
theorem dX12_thing_152 : decode cX12_thing 152 = .ok (.ireturn, 1) := by decide +kernel
theorem dX12_thing_153 : decode cX12_thing 153 = .ok (.iload_n 2, 1) := by decide +kernel
theorem dX12_thing_154 : decode cX12_thing 154 = .ok (.bipush 108, 2) := by decide +kernel
theorem dX12_thing_156 : decode cX12_thing 156 = .ok (.if_icmp .ne 15, 3) := by decide +kernel
theorem dX12_thing_159 : decode cX12_thing 159 = .ok (.aload_n 0, 1) := by decide +kernel
theorem dX12_thing_160 : decode cX12_thing 160 = .ok (.getfield 23, 3) := by decide +kernel
theorem dX12_thing_163 : decode cX12_thing 163 = .ok (.aload_n 0, 1) := by decide +kernel
theorem dX12_thing_164 : decode cX12_thing 164 = .ok (.getfield 68, 3) := by decide +kernel
theorem dX12_thing_167 : decode cX12_thing 167 = .ok (.iaload, 1) := by decide +kernel
theorem dX12_thing_168 : decode cX12_thing 168 = .ok (.goto 112, 3) := by decide +kernel
theorem dX12_thing_171 : decode cX12_thing 171 = .ok (.iload_n 2, 1) := by decide +kernel
theorem dX12_thing_172 : decode cX12_thing 172 = .ok (.bipush 109, 2) := by decide +kernel
theorem dX12_thing_174 : decode cX12_thing 174 = .ok (.if_icmp .ne 15, 3) := by decide +kernel
theorem dX12_thing_177 : decode cX12_thing 177 = .ok (.aload_n 0, 1) := by decide +kernel
theorem dX12_thing_178 : decode cX12_thing 178 = .ok (.getfield 20, 3) := by decide +kernel
theorem dX12_thing_181 : decode cX12_thing 181 = .ok (.aload_n 0, 1) := by decide +kernel
theorem dX12_thing_182 : decode cX12_thing 182 = .ok (.getfield 68, 3) := by decide +kernel
theorem dX12_thing_185 : decode cX12_thing 185 = .ok (.iaload, 1) := by decide +kernel
theorem dX12_thing_186 : decode cX12_thing 186 = .ok (.goto 94, 3) := by decide +kernel
theorem dX12_thing_189 : decode cX12_thing 189 = .ok (.iload_n 2, 1) := by decide +kernel
theorem dX12_thing_190 : decode cX12_thing 190 = .ok (.bipush 111, 2) := by decide +kernel
theorem dX12_thing_192 : decode cX12_thing 192 = .ok (.if_icmp .ne 23, 3) := by decide +kernel
theorem dX12_thing_195 : decode cX12_thing 195 = .ok (.aload_n 0, 1) := by decide +kernel
theorem dX12_thing_196 : decode cX12_thing 196 = .ok (.getfield 16, 3) := by decide +kernel
theorem dX12_thing_199 : decode cX12_thing 199 = .ok (.aload_n 0, 1) := by decide +kernel
theorem dX12_thing_200 : decode cX12_thing 200 = .ok (.getfield 68, 3) := by decide +kernel
theorem dX12_thing_203 : decode cX12_thing 203 = .ok (.baload, 1) := by decide +kernel
theorem dX12_thing_204 : decode cX12_thing 204 = .ok (.ifCond .eq 7, 3) := by decide +kernel
theorem dX12_thing_207 : decode cX12_thing 207 = .ok (.iconst 1, 1) := by decide +kernel
theorem dX12_thing_208 : decode cX12_thing 208 = .ok (.goto 72, 3) := by decide +kernel
theorem dX12_thing_211 : decode cX12_thing 211 = .ok (.iconst 0, 1) := by decide +kernel
theorem dX12_thing_212 : decode cX12_thing 212 = .ok (.goto 68, 3) := by decide +kernel
theorem dX12_thing_215 : decode cX12_thing 215 = .ok (.iload_n 2, 1) := by decide +kernel
theorem dX12_thing_216 : decode cX12_thing 216 = .ok (.bipush 104, 2) := by decide +kernel
theorem dX12_thing_218 : decode cX12_thing 218 = .ok (.if_icmp .ne 10, 3) := by decide +kernel
theorem dX12_thing_221 : decode cX12_thing 221 = .ok (.aload_n 0, 1) := by decide +kernel
theorem dX12_thing_222 : decode cX12_thing 222 = .ok (.getfield 228, 3) := by decide +kernel
theorem dX12_thing_225 : decode cX12_thing 225 = .ok (.goto 55, 3) := by decide +kernel
theorem dX12_thing_228 : decode cX12_thing 228 = .ok (.iload_n 2, 1) := by decide +kernel
theorem dX12_thing_229 : decode cX12_thing 229 = .ok (.bipush 119, 2) := by decide +kernel
theorem dX12_thing_231 : decode cX12_thing 231 = .ok (.if_icmp .ne 15, 3) := by decide +kernel
theorem dX12_thing_234 : decode cX12_thing 234 = .ok (.aload_n 0, 1) := by decide +kernel
theorem dX12_thing_235 : decode cX12_thing 235 = .ok (.getfield 38, 3) := by decide +kernel
theorem dX12_thing_238 : decode cX12_thing 238 = .ok (.aload_n 0, 1) := by decide +kernel
theorem dX12_thing_239 : decode cX12_thing 239 = .ok (.getfield 231, 3) := by decide +kernel
theorem dX12_thing_242 : decode cX12_thing 242 = .ok (.iaload, 1) := by decide +kernel
theorem dX12_thing_243 : decode cX12_thing 243 = .ok (.goto 37, 3) := by decide +kernel
theorem dX12_thing_246 : decode cX12_thing 246 = .ok (.aload_n 0, 1) := by decide +kernel
theorem dX12_thing_247 : decode cX12_thing 247 = .ok (.getfield 71, 3) := by decide +kernel
theorem dX12_thing_250 : decode cX12_thing 250 = .ok (.aload_n 0, 1) := by decide +kernel
theorem dX12_thing_251 : decode cX12_thing 251 = .ok (.getfield 68, 3) := by decide +kernel
theorem dX12_thing_254 : decode cX12_thing 254 = .ok (.iaload, 1) := by decide +kernel
theorem dX12_thing_255 : decode cX12_thing 255 = .ok (.aload_n 0, 1) := by decide +kernel
theorem dX12_thing_256 : decode cX12_thing 256 = .ok (.getfield 74, 3) := by decide +kernel
theorem dX12_thing_259 : decode cX12_thing 259 = .ok (.aload_n 0, 1) := by decide +kernel
theorem dX12_thing_260 : decode cX12_thing 260 = .ok (.getfield 68, 3) := by decide +kernel
theorem dX12_thing_263 : decode cX12_thing 263 = .ok (.iaload, 1) := by decide +kernel
theorem dX12_thing_264 : decode cX12_thing 264 = .ok (.aload_n 0, 1) := by decide +kernel
theorem dX12_thing_265 : decode cX12_thing 265 = .ok (.getfield 231, 3) := by decide +kernel
theorem dX12_thing_268 : decode cX12_thing 268 = .ok (.invokestatic 234, 3) := by decide +kernel
theorem dX12_thing_271 : decode cX12_thing 271 = .ok (.ifCond .eq 7, 3) := by decide +kernel
theorem dX12_thing_274 : decode cX12_thing 274 = .ok (.iconst 1, 1) := by decide +kernel
theorem dX12_thing_275 : decode cX12_thing 275 = .ok (.goto 4, 3) := by decide +kernel
theorem dX12_thing_278 : decode cX12_thing 278 = .ok (.iconst 0, 1) := by decide +kernel
theorem dX12_thing_279 : decode cX12_thing 279 = .ok (.isub, 1) := by decide +kernel
theorem dX12_thing_280 : decode cX12_thing 280 = .ok (.ireturn, 1) := by decide +kernel
set_option maxRecDepth 100000 in
set_option maxHeartbeats 4000000 in
theorem B_X12_thing_0 {κ : Nat → List Value → List Value → m2M → Prop} {D : Nat} {Q : Option Value → m2M → Prop} (h : m2_RL κ cX12_thing RX12 4 (D + 1) (some .int) Q) (hD : 0 ≤ D) {x1 : Int32} {μ : m2M} (k : ∃ Q3 : Option Value → m2M → Prop, m2_MT D yX12_passes cX12_passes 2 (some .boolean) [.ref kM, .int 45] μ Q3 ∧ ∀ (y1 : Int32) (μ2 : m2M), Q3 (some (.int y1)) μ2 → ((y1 = 0 → ((fX12_fine μ2) = 1 → ∃ Q13 : Option Value → m2M → Prop, m2_MT D yX12_here cX12_here 1 (some .int) [.ref kM] μ2 Q13 ∧ ∀ (y11 : Int32) (μ12 : m2M), Q13 (some (.int y11)) μ12 → ((¬ y11 = 40 → κ 67 [.ref kM, .int x1, .int y11, .null] [] μ12) ∧ (y11 = 40 → (4 ≤ x1 → κ 67 [.ref kM, .int x1, .int y11, .null] [] μ12) ∧ (¬ 4 ≤ x1 → ∃ Q20 : Option Value → m2M → Prop, m2_MT D yX12_held cX12_held 3 (some .int) [.ref kM, .int (x1 + 1)] (m2_si μ12 kM 26 ((μ12.1 kM 26) + 1)) Q20 ∧ ∀ (y18 : Int32) (μ19 : m2M), Q20 (some (.int y18)) μ19 → (∃ Q25 : Option Value → m2M → Prop, m2_MT D yX12_need cX12_need 2 none [.ref kM, .int 41] μ19 Q25 ∧ ∀ (μ24 : m2M), Q25 none μ24 → (Q (some (.int y18)) μ24)))))) ∧ (¬ (fX12_fine μ2) = 1 → Q (some (.int 0)) μ2)) ∧ (¬ y1 = 0 → ∃ Q30 : Option Value → m2M → Prop, m2_MT D yX12_thing cX12_thing 4 (some .int) [.ref kM, .int x1] μ2 Q30 ∧ ∀ (y28 : Int32) (μ29 : m2M), Q30 (some (.int y28)) μ29 → (Q (some (.int (-y28))) μ29)))) : κ 0 [.ref kM, .int x1, .null, .null] [] μ := by
  have hB := h.b
  refine m2_aload_n hB dX12_thing_0 rfl ?_
  refine m2_bipush hB dX12_thing_1 (v := 45) (by decide) ?_
  obtain ⟨Q3, hM4, k⟩ := k
  refine m2_invz hB (as := [.int 45]) dX12_thing_3 mv_X12_185 rfl sh_kM rfl (Nat.le_of_ble_eq_true rfl) rfl hM4 (fun y1 μ2 hq5 => ?_)
  replace k := k y1 μ2 hq5
  refine m2_if_eq hB dX12_thing_6 (tgt := 16) (by decide) (fun q6 : y1 = 0 => ?_) (fun q6 : ¬ y1 = 0 => ?_)
  · replace k := k.1 q6
    refine m2_aload_n hB dX12_thing_16 rfl ?_
    refine m2_invz hB (as := []) dX12_thing_17 mv_X12_177 rfl sh_kM rfl (Nat.le_of_ble_eq_true rfl) rfl (P_X12_fine (by omega)  _ ) (fun y7 μ8 hq9 => ?_)
    obtain ⟨⟨⟩, hq9⟩ := hq9
    subst μ8
    show κ 20 [.ref kM, .int x1, .null, .null] [.int (if (fX12_fine μ2) = 1 then 1 else 0 : Int32)] μ2
    by_cases q10 : (fX12_fine μ2) = 1
    · rw [if_pos q10]
      replace k := k.1 q10
      refine m2_if_ne hB dX12_thing_20 (tgt := 25) (by decide) (fun _ => ?_) (fun q => absurd q (by decide))
      refine m2_aload_n hB dX12_thing_25 rfl ?_
      obtain ⟨Q13, hM14, k⟩ := k
      refine m2_invi hB (as := []) dX12_thing_26 mv_X12_181 rfl sh_kM rfl (Nat.le_of_ble_eq_true rfl) rfl hM14 (fun y11 μ12 hq15 => ?_)
      replace k := k y11 μ12 hq15
      refine m2_istore_n hB (ls' := [.ref kM, .int x1, .int y11, .null]) dX12_thing_29 rfl (by decide) rfl ?_
      refine m2_iload_n hB dX12_thing_30 rfl ?_
      refine m2_bipush hB dX12_thing_31 (v := 40) (by decide) ?_
      refine m2_icmp_ne hB dX12_thing_33 (tgt := 67) (by decide) (fun q16 : ¬ y11 = 40 => ?_) (fun q16 : y11 = 40 => ?_)
      · replace k := k.1 q16
        exact k
      · replace k := k.2 q16
        refine m2_iload_n hB dX12_thing_36 rfl ?_
        refine m2_iconst hB dX12_thing_37 (v := 4) (by decide) ?_
        refine m2_icmp_ge hB dX12_thing_38 (tgt := 67) (by decide) (fun q17 : 4 ≤ x1 => ?_) (fun q17 : ¬ 4 ≤ x1 => ?_)
        · replace k := k.1 q17
          exact k
        · replace k := k.2 q17
          refine m2_aload_n hB dX12_thing_41 rfl ?_
          refine m2_dup hB dX12_thing_42 rfl ?_
          refine m2_getI hB dX12_thing_43 fl_X12_171 sh_kM rfl ?_
          refine m2_iconst hB dX12_thing_46 (v := 1) (by decide) ?_
          refine m2_iadd hB dX12_thing_47 ?_
          refine m2_putI hB dX12_thing_48 fl_X12_171 sh_kM rfl ?_
          refine m2_aload_n hB dX12_thing_51 rfl ?_
          refine m2_iload_n hB dX12_thing_52 rfl ?_
          refine m2_iconst hB dX12_thing_53 (v := 1) (by decide) ?_
          refine m2_iadd hB dX12_thing_54 ?_
          obtain ⟨Q20, hM21, k⟩ := k
          refine m2_invi hB (as := [.int (x1 + 1)]) dX12_thing_55 mv_X12_225 rfl sh_kM rfl (Nat.le_of_ble_eq_true rfl) rfl hM21 (fun y18 μ19 hq22 => ?_)
          replace k := k y18 μ19 hq22
          refine m2_istore_n hB (ls' := [.ref kM, .int x1, .int y11, .int y18]) dX12_thing_58 rfl (by decide) rfl ?_
          refine m2_aload_n hB dX12_thing_59 rfl ?_
          refine m2_bipush hB dX12_thing_60 (v := 41) (by decide) ?_
          obtain ⟨Q25, hM26, k⟩ := k
          refine m2_invv hB (as := [.int 41]) dX12_thing_62 mv_X12_208 rfl sh_kM rfl (Nat.le_of_ble_eq_true rfl) rfl hM26 (fun μ24 hq27 => ?_)
          replace k := k μ24 hq27
          refine m2_iload_n hB dX12_thing_65 rfl ?_
          exact m2_iret h dX12_thing_66 k
    · rw [if_neg q10]
      replace k := k.2 q10
      refine m2_if_ne hB dX12_thing_20 (tgt := 25) (by decide) (fun q => absurd q (by decide)) (fun _ => ?_)
      refine m2_iconst hB dX12_thing_23 (v := 0) (by decide) ?_
      exact m2_iret h dX12_thing_24 k
  · replace k := k.2 q6
    refine m2_aload_n hB dX12_thing_9 rfl ?_
    refine m2_iload_n hB dX12_thing_10 rfl ?_
    obtain ⟨Q30, hM31, k⟩ := k
    refine m2_invi hB (as := [.int x1]) dX12_thing_11 mv_X12_222 rfl sh_kM rfl (Nat.le_of_ble_eq_true rfl) rfl hM31 (fun y28 μ29 hq32 => ?_)
    replace k := k y28 μ29 hq32
    refine m2_ineg hB dX12_thing_14 ?_
    exact m2_iret h dX12_thing_15 k
set_option maxRecDepth 100000 in
set_option maxHeartbeats 4000000 in
theorem B_X12_thing_67 {κ : Nat → List Value → List Value → m2M → Prop} {D : Nat} {Q : Option Value → m2M → Prop} (h : m2_RL κ cX12_thing RX12 4 (D + 1) (some .int) Q) (hD : 0 ≤ D) {v1 : Int32} {v2 : Int32} {μ : m2M} (k : ((fX12_in v2 48 57) = 1 → ∃ Q7 : Option Value → m2M → Prop, m2_MT D yX12_number cX12_number 5 (some .int) [.ref kM, .int 3, .int 999] μ Q7 ∧ ∀ (y5 : Int32) (μ6 : m2M), Q7 (some (.int y5)) μ6 → (Q (some (.int y5)) μ6)) ∧ (¬ (fX12_in v2 48 57) = 1 → (v2 = 108 → κ 133 [.ref kM, .int v1, .int v2, .null] [] μ) ∧ (¬ v2 = 108 → (v2 = 109 → κ 133 [.ref kM, .int v1, .int v2, .null] [] μ) ∧ (¬ v2 = 109 → (v2 = 111 → κ 133 [.ref kM, .int v1, .int v2, .null] [] μ) ∧ (¬ v2 = 111 → (v2 = 104 → κ 133 [.ref kM, .int v1, .int v2, .null] [] μ) ∧ (¬ v2 = 104 → (v2 = 119 → κ 133 [.ref kM, .int v1, .int v2, .null] [] μ) ∧ (¬ v2 = 119 → (v2 = 107 → κ 133 [.ref kM, .int v1, .int v2, .null] [] μ) ∧ (¬ v2 = 107 → ∃ Q18 : Option Value → m2M → Prop, m2_MT D yX12_fault cX12_fault 2 none [.ref kM, .int (μ.1 kM 26)] μ Q18 ∧ ∀ (μ17 : m2M), Q18 none μ17 → (Q (some (.int 0)) μ17))))))))) : κ 67 [.ref kM, .int v1, .int v2, .null] [] μ := by
  have hB := h.b
  refine m2_iload_n hB dX12_thing_67 rfl ?_
  refine m2_bipush hB dX12_thing_68 (v := 48) (by decide) ?_
  refine m2_bipush hB dX12_thing_70 (v := 57) (by decide) ?_
  refine m2_invSz hB (as := [.int v2, .int 48, .int 57]) dX12_thing_72 ms_X12_149 rfl (Nat.le_of_ble_eq_true rfl) rfl (P_X12_in (by omega) (v2) (48) (57) _ ) (fun y1 μ2 hq3 => ?_)
  obtain ⟨⟨⟩, hq3⟩ := hq3
  subst μ2
  show κ 75 [.ref kM, .int v1, .int v2, .null] [.int (if (fX12_in v2 48 57) = 1 then 1 else 0 : Int32)] μ
  by_cases q4 : (fX12_in v2 48 57) = 1
  · rw [if_pos q4]
    replace k := k.1 q4
    refine m2_if_eq hB dX12_thing_75 (tgt := 87) (by decide) (fun q => absurd q (by decide)) (fun _ => ?_)
    refine m2_aload_n hB dX12_thing_78 rfl ?_
    refine m2_iconst hB dX12_thing_79 (v := 3) (by decide) ?_
    refine m2_sipush hB dX12_thing_80 (v := 999) (by decide) ?_
    obtain ⟨Q7, hM8, k⟩ := k
    refine m2_invi hB (as := [.int 3, .int 999]) dX12_thing_83 mv_X12_204 rfl sh_kM rfl (Nat.le_of_ble_eq_true rfl) rfl hM8 (fun y5 μ6 hq9 => ?_)
    replace k := k y5 μ6 hq9
    exact m2_iret h dX12_thing_86 k
  · rw [if_neg q4]
    replace k := k.2 q4
    refine m2_if_eq hB dX12_thing_75 (tgt := 87) (by decide) (fun _ => ?_) (fun q => absurd q (by decide))
    refine m2_iload_n hB dX12_thing_87 rfl ?_
    refine m2_bipush hB dX12_thing_88 (v := 108) (by decide) ?_
    refine m2_icmp_eq hB dX12_thing_90 (tgt := 133) (by decide) (fun q10 : v2 = 108 => ?_) (fun q10 : ¬ v2 = 108 => ?_)
    · replace k := k.1 q10
      exact k
    · replace k := k.2 q10
      refine m2_iload_n hB dX12_thing_93 rfl ?_
      refine m2_bipush hB dX12_thing_94 (v := 109) (by decide) ?_
      refine m2_icmp_eq hB dX12_thing_96 (tgt := 133) (by decide) (fun q11 : v2 = 109 => ?_) (fun q11 : ¬ v2 = 109 => ?_)
      · replace k := k.1 q11
        exact k
      · replace k := k.2 q11
        refine m2_iload_n hB dX12_thing_99 rfl ?_
        refine m2_bipush hB dX12_thing_100 (v := 111) (by decide) ?_
        refine m2_icmp_eq hB dX12_thing_102 (tgt := 133) (by decide) (fun q12 : v2 = 111 => ?_) (fun q12 : ¬ v2 = 111 => ?_)
        · replace k := k.1 q12
          exact k
        · replace k := k.2 q12
          refine m2_iload_n hB dX12_thing_105 rfl ?_
          refine m2_bipush hB dX12_thing_106 (v := 104) (by decide) ?_
          refine m2_icmp_eq hB dX12_thing_108 (tgt := 133) (by decide) (fun q13 : v2 = 104 => ?_) (fun q13 : ¬ v2 = 104 => ?_)
          · replace k := k.1 q13
            exact k
          · replace k := k.2 q13
            refine m2_iload_n hB dX12_thing_111 rfl ?_
            refine m2_bipush hB dX12_thing_112 (v := 119) (by decide) ?_
            refine m2_icmp_eq hB dX12_thing_114 (tgt := 133) (by decide) (fun q14 : v2 = 119 => ?_) (fun q14 : ¬ v2 = 119 => ?_)
            · replace k := k.1 q14
              exact k
            · replace k := k.2 q14
              refine m2_iload_n hB dX12_thing_117 rfl ?_
              refine m2_bipush hB dX12_thing_118 (v := 107) (by decide) ?_
              refine m2_icmp_eq hB dX12_thing_120 (tgt := 133) (by decide) (fun q15 : v2 = 107 => ?_) (fun q15 : ¬ v2 = 107 => ?_)
              · replace k := k.1 q15
                exact k
              · replace k := k.2 q15
                refine m2_aload_n hB dX12_thing_123 rfl ?_
                refine m2_aload_n hB dX12_thing_124 rfl ?_
                refine m2_getI hB dX12_thing_125 fl_X12_171 sh_kM rfl ?_
                obtain ⟨Q18, hM19, k⟩ := k
                refine m2_invv hB (as := [.int (μ.1 kM 26)]) dX12_thing_128 mv_X12_189 rfl sh_kM rfl (Nat.le_of_ble_eq_true rfl) rfl hM19 (fun μ17 hq20 => ?_)
                replace k := k μ17 hq20
                refine m2_iconst hB dX12_thing_131 (v := 0) (by decide) ?_
                exact m2_iret h dX12_thing_132 k
set_option maxRecDepth 100000 in
set_option maxHeartbeats 4000000 in
theorem B_X12_thing_133 {κ : Nat → List Value → List Value → m2M → Prop} {D : Nat} {Q : Option Value → m2M → Prop} (h : m2_RL κ cX12_thing RX12 4 (D + 1) (some .int) Q) (hD : 0 ≤ D) {v1 : Int32} {v2 : Int32} {μ : m2M} (k : (¬ (μ.1 kM 30) = (-1) → (¬ v2 = 108 → (¬ v2 = 109 → (¬ v2 = 111 → (¬ v2 = 104 → (¬ v2 = 119 → (vp_in (μ.1 kM 30) 20) ∧ (((fX12_has (μ.1 kM_isOnWay ((μ.1 kM 30)).toNatClampNeg) (μ.1 kM 31)) = 1 → Q (some (.int ((μ.1 kM_onTheirWay ((μ.1 kM 30)).toNatClampNeg) - 1))) (m2_si μ kM 26 ((μ.1 kM 26) + 1))) ∧ (¬ (fX12_has (μ.1 kM_isOnWay ((μ.1 kM 30)).toNatClampNeg) (μ.1 kM 31)) = 1 → Q (some (.int ((μ.1 kM_onTheirWay ((μ.1 kM 30)).toNatClampNeg) - 0))) (m2_si μ kM 26 ((μ.1 kM 26) + 1))))) ∧ (v2 = 119 → (vp_in (μ.1 kM 31) 8) ∧ (Q (some (.int (μ.1 kM_worth ((μ.1 kM 31)).toNatClampNeg))) (m2_si μ kM 26 ((μ.1 kM 26) + 1))))) ∧ (v2 = 104 → Q (some (.int (μ.1 kM 16))) (m2_si μ kM 26 ((μ.1 kM 26) + 1)))) ∧ (v2 = 111 → (vp_in (μ.1 kM 30) 20) ∧ (Q (some (.int (if (μ.1 kM_isOneWay ((μ.1 kM 30)).toNatClampNeg) = 0 then 0 else 1 : Int32))) (m2_si μ kM 26 ((μ.1 kM 26) + 1))))) ∧ (v2 = 109 → (vp_in (μ.1 kM 30) 20) ∧ (Q (some (.int (μ.1 kM_lets ((μ.1 kM 30)).toNatClampNeg))) (m2_si μ kM 26 ((μ.1 kM 26) + 1))))) ∧ (v2 = 108 → (vp_in (μ.1 kM 30) 20) ∧ (Q (some (.int (μ.1 kM_left ((μ.1 kM 30)).toNatClampNeg))) (m2_si μ kM 26 ((μ.1 kM 26) + 1))))) ∧ ((μ.1 kM 30) = (-1) → Q (some (.int 0)) (m2_si μ kM 26 ((μ.1 kM 26) + 1)))) : κ 133 [.ref kM, .int v1, .int v2, .null] [] μ := by
  have hB := h.b
  refine m2_aload_n hB dX12_thing_133 rfl ?_
  refine m2_dup hB dX12_thing_134 rfl ?_
  refine m2_getI hB dX12_thing_135 fl_X12_171 sh_kM rfl ?_
  refine m2_iconst hB dX12_thing_138 (v := 1) (by decide) ?_
  refine m2_iadd hB dX12_thing_139 ?_
  refine m2_putI hB dX12_thing_140 fl_X12_171 sh_kM rfl ?_
  refine m2_aload_n hB dX12_thing_143 rfl ?_
  refine m2_getI hB dX12_thing_144 fl_X12_68 sh_kM rfl ?_
  refine m2_iconst hB dX12_thing_147 (v := (-1)) (by decide) ?_
  refine m2_icmp_ne hB dX12_thing_148 (tgt := 153) (by decide) (fun q1 : ¬ (μ.1 kM 30) = (-1) => ?_) (fun q1 : (μ.1 kM 30) = (-1) => ?_)
  · replace k := k.1 q1
    refine m2_iload_n hB dX12_thing_153 rfl ?_
    refine m2_bipush hB dX12_thing_154 (v := 108) (by decide) ?_
    refine m2_icmp_ne hB dX12_thing_156 (tgt := 171) (by decide) (fun q3 : ¬ v2 = 108 => ?_) (fun q3 : v2 = 108 => ?_)
    · replace k := k.1 q3
      refine m2_iload_n hB dX12_thing_171 rfl ?_
      refine m2_bipush hB dX12_thing_172 (v := 109) (by decide) ?_
      refine m2_icmp_ne hB dX12_thing_174 (tgt := 189) (by decide) (fun q5 : ¬ v2 = 109 => ?_) (fun q5 : v2 = 109 => ?_)
      · replace k := k.1 q5
        refine m2_iload_n hB dX12_thing_189 rfl ?_
        refine m2_bipush hB dX12_thing_190 (v := 111) (by decide) ?_
        refine m2_icmp_ne hB dX12_thing_192 (tgt := 215) (by decide) (fun q7 : ¬ v2 = 111 => ?_) (fun q7 : v2 = 111 => ?_)
        · replace k := k.1 q7
          refine m2_iload_n hB dX12_thing_215 rfl ?_
          refine m2_bipush hB dX12_thing_216 (v := 104) (by decide) ?_
          refine m2_icmp_ne hB dX12_thing_218 (tgt := 228) (by decide) (fun q9 : ¬ v2 = 104 => ?_) (fun q9 : v2 = 104 => ?_)
          · replace k := k.1 q9
            refine m2_iload_n hB dX12_thing_228 rfl ?_
            refine m2_bipush hB dX12_thing_229 (v := 119) (by decide) ?_
            refine m2_icmp_ne hB dX12_thing_231 (tgt := 246) (by decide) (fun q11 : ¬ v2 = 119 => ?_) (fun q11 : v2 = 119 => ?_)
            · replace k := k.1 q11
              refine m2_aload_n hB dX12_thing_246 rfl ?_
              refine m2_getR hB dX12_thing_247 fl_X12_71 sh_kM (c1 := kM_onTheirWay) rfl ?_
              refine m2_aload_n hB dX12_thing_250 rfl ?_
              refine m2_getI hB dX12_thing_251 fl_X12_68 sh_kM rfl ?_
              obtain ⟨hi12, k⟩ := k
              refine m2_iald hB dX12_thing_254 sh_kM_onTheirWay hi12 ?_
              refine m2_aload_n hB dX12_thing_255 rfl ?_
              refine m2_getR hB dX12_thing_256 fl_X12_74 sh_kM (c1 := kM_isOnWay) rfl ?_
              refine m2_aload_n hB dX12_thing_259 rfl ?_
              refine m2_getI hB dX12_thing_260 fl_X12_68 sh_kM rfl ?_
              have hi13 := hi12
              refine m2_iald hB dX12_thing_263 sh_kM_isOnWay hi13 ?_
              refine m2_aload_n hB dX12_thing_264 rfl ?_
              refine m2_getI hB dX12_thing_265 fl_X12_231 sh_kM rfl ?_
              refine m2_invSz hB (as := [.int (μ.1 kM_isOnWay ((μ.1 kM 30)).toNatClampNeg), .int (μ.1 kM 31)]) dX12_thing_268 ms_X12_234 rfl (Nat.le_of_ble_eq_true rfl) rfl (P_X12_has (by omega) ((μ.1 kM_isOnWay ((μ.1 kM 30)).toNatClampNeg)) ((μ.1 kM 31)) _ ) (fun y14 μ15 hq16 => ?_)
              obtain ⟨⟨⟩, hq16⟩ := hq16
              subst μ15
              show κ 271 [.ref kM, .int v1, .int v2, .null] [.int (if (fX12_has (μ.1 kM_isOnWay ((μ.1 kM 30)).toNatClampNeg) (μ.1 kM 31)) = 1 then 1 else 0 : Int32), .int (μ.1 kM_onTheirWay ((μ.1 kM 30)).toNatClampNeg)] (m2_si μ kM 26 ((μ.1 kM 26) + 1))
              by_cases q17 : (fX12_has (μ.1 kM_isOnWay ((μ.1 kM 30)).toNatClampNeg) (μ.1 kM 31)) = 1
              · rw [if_pos q17]
                replace k := k.1 q17
                refine m2_if_eq hB dX12_thing_271 (tgt := 278) (by decide) (fun q => absurd q (by decide)) (fun _ => ?_)
                refine m2_iconst hB dX12_thing_274 (v := 1) (by decide) ?_
                refine m2_goto hB dX12_thing_275 (tgt := 279) (by decide) ?_
                refine m2_isub hB dX12_thing_279 ?_
                exact m2_iret h dX12_thing_280 k
              · rw [if_neg q17]
                replace k := k.2 q17
                refine m2_if_eq hB dX12_thing_271 (tgt := 278) (by decide) (fun _ => ?_) (fun q => absurd q (by decide))
                refine m2_iconst hB dX12_thing_278 (v := 0) (by decide) ?_
                refine m2_isub hB dX12_thing_279 ?_
                exact m2_iret h dX12_thing_280 k
            · replace k := k.2 q11
              refine m2_aload_n hB dX12_thing_234 rfl ?_
              refine m2_getR hB dX12_thing_235 fl_X12_38 sh_kM (c1 := kM_worth) rfl ?_
              refine m2_aload_n hB dX12_thing_238 rfl ?_
              refine m2_getI hB dX12_thing_239 fl_X12_231 sh_kM rfl ?_
              obtain ⟨hi18, k⟩ := k
              refine m2_iald hB dX12_thing_242 sh_kM_worth hi18 ?_
              refine m2_goto hB dX12_thing_243 (tgt := 280) (by decide) ?_
              exact m2_iret h dX12_thing_280 k
          · replace k := k.2 q9
            refine m2_aload_n hB dX12_thing_221 rfl ?_
            refine m2_getI hB dX12_thing_222 fl_X12_228 sh_kM rfl ?_
            refine m2_goto hB dX12_thing_225 (tgt := 280) (by decide) ?_
            exact m2_iret h dX12_thing_280 k
        · replace k := k.2 q7
          refine m2_aload_n hB dX12_thing_195 rfl ?_
          refine m2_getR hB dX12_thing_196 fl_X12_16 sh_kM (c1 := kM_isOneWay) rfl ?_
          refine m2_aload_n hB dX12_thing_199 rfl ?_
          refine m2_getI hB dX12_thing_200 fl_X12_68 sh_kM rfl ?_
          obtain ⟨hi19, k⟩ := k
          refine m2_zald hB dX12_thing_203 sh_kM_isOneWay hi19 ?_
          have G21 : κ 280 [.ref kM, .int v1, .int v2, .null] [.int (if (μ.1 kM_isOneWay ((μ.1 kM 30)).toNatClampNeg) = 0 then 0 else 1 : Int32)] (m2_si μ kM 26 ((μ.1 kM 26) + 1)) := by
            exact m2_iret h dX12_thing_280 k
          refine m2_if_eq hB dX12_thing_204 (tgt := 211) (by decide) (fun q20 : (μ.1 kM_isOneWay ((μ.1 kM 30)).toNatClampNeg) = 0 => ?_) (fun q20 : ¬ (μ.1 kM_isOneWay ((μ.1 kM 30)).toNatClampNeg) = 0 => ?_)
          · rw [if_pos q20] at G21
            refine m2_iconst hB dX12_thing_211 (v := 0) (by decide) ?_
            refine m2_goto hB dX12_thing_212 (tgt := 280) (by decide) ?_
            exact G21
          · rw [if_neg q20] at G21
            refine m2_iconst hB dX12_thing_207 (v := 1) (by decide) ?_
            refine m2_goto hB dX12_thing_208 (tgt := 280) (by decide) ?_
            exact G21
      · replace k := k.2 q5
        refine m2_aload_n hB dX12_thing_177 rfl ?_
        refine m2_getR hB dX12_thing_178 fl_X12_20 sh_kM (c1 := kM_lets) rfl ?_
        refine m2_aload_n hB dX12_thing_181 rfl ?_
        refine m2_getI hB dX12_thing_182 fl_X12_68 sh_kM rfl ?_
        obtain ⟨hi22, k⟩ := k
        refine m2_iald hB dX12_thing_185 sh_kM_lets hi22 ?_
        refine m2_goto hB dX12_thing_186 (tgt := 280) (by decide) ?_
        exact m2_iret h dX12_thing_280 k
    · replace k := k.2 q3
      refine m2_aload_n hB dX12_thing_159 rfl ?_
      refine m2_getR hB dX12_thing_160 fl_X12_23 sh_kM (c1 := kM_left) rfl ?_
      refine m2_aload_n hB dX12_thing_163 rfl ?_
      refine m2_getI hB dX12_thing_164 fl_X12_68 sh_kM rfl ?_
      obtain ⟨hi23, k⟩ := k
      refine m2_iald hB dX12_thing_167 sh_kM_left hi23 ?_
      refine m2_goto hB dX12_thing_168 (tgt := 280) (by decide) ?_
      exact m2_iret h dX12_thing_280 k
  · replace k := k.2 q1
    refine m2_iconst hB dX12_thing_151 (v := 0) (by decide) ?_
    exact m2_iret h dX12_thing_152 k
theorem dX12_price_0 : decode cX12_price 0 = .ok (.aload_n 0, 1) := by decide +kernel
theorem dX12_price_1 : decode cX12_price 1 = .ok (.iconst 0, 1) := by decide +kernel
theorem dX12_price_2 : decode cX12_price 2 = .ok (.putfield 143, 3) := by decide +kernel
theorem dX12_price_5 : decode cX12_price 5 = .ok (.aload_n 0, 1) := by decide +kernel
theorem dX12_price_6 : decode cX12_price 6 = .ok (.getfield 159, 3) := by decide +kernel
theorem dX12_price_9 : decode cX12_price 9 = .ok (.istore_n 1, 1) := by decide +kernel
theorem dX12_price_10 : decode cX12_price 10 = .ok (.aload_n 0, 1) := by decide +kernel
theorem dX12_price_11 : decode cX12_price 11 = .ok (.aload_n 0, 1) := by decide +kernel
theorem dX12_price_12 : decode cX12_price 12 = .ok (.getfield 57, 3) := by decide +kernel
theorem dX12_price_15 : decode cX12_price 15 = .ok (.iload_n 1, 1) := by decide +kernel
theorem dX12_price_16 : decode cX12_price 16 = .ok (.bipush 40, 2) := by decide +kernel
theorem dX12_price_18 : decode cX12_price 18 = .ok (.invokevirtual 193, 3) := by decide +kernel
theorem dX12_price_21 : decode cX12_price 21 = .ok (.aload_n 0, 1) := by decide +kernel
theorem dX12_price_22 : decode cX12_price 22 = .ok (.iconst 0, 1) := by decide +kernel
theorem dX12_price_23 : decode cX12_price 23 = .ok (.putfield 159, 3) := by decide +kernel
theorem dX12_price_26 : decode cX12_price 26 = .ok (.aload_n 0, 1) := by decide +kernel
theorem dX12_price_27 : decode cX12_price 27 = .ok (.iconst (-1), 1) := by decide +kernel
theorem dX12_price_28 : decode cX12_price 28 = .ok (.putfield 68, 3) := by decide +kernel
theorem dX12_price_31 : decode cX12_price 31 = .ok (.iload_n 1, 1) := by decide +kernel
theorem dX12_price_32 : decode cX12_price 32 = .ok (.ifCond .le 39, 3) := by decide +kernel
theorem dX12_price_35 : decode cX12_price 35 = .ok (.aload_n 0, 1) := by decide +kernel
theorem dX12_price_36 : decode cX12_price 36 = .ok (.iconst 0, 1) := by decide +kernel
theorem dX12_price_37 : decode cX12_price 37 = .ok (.invokevirtual 225, 3) := by decide +kernel
theorem dX12_price_40 : decode cX12_price 40 = .ok (.pop, 1) := by decide +kernel
theorem dX12_price_41 : decode cX12_price 41 = .ok (.aload_n 0, 1) := by decide +kernel
theorem dX12_price_42 : decode cX12_price 42 = .ok (.getfield 171, 3) := by decide +kernel
theorem dX12_price_45 : decode cX12_price 45 = .ok (.iload_n 1, 1) := by decide +kernel
theorem dX12_price_46 : decode cX12_price 46 = .ok (.if_icmp .ge 11, 3) := by decide +kernel
theorem dX12_price_49 : decode cX12_price 49 = .ok (.aload_n 0, 1) := by decide +kernel
theorem dX12_price_50 : decode cX12_price 50 = .ok (.aload_n 0, 1) := by decide +kernel
theorem dX12_price_51 : decode cX12_price 51 = .ok (.getfield 171, 3) := by decide +kernel
theorem dX12_price_54 : decode cX12_price 54 = .ok (.invokevirtual 189, 3) := by decide +kernel
theorem dX12_price_57 : decode cX12_price 57 = .ok (.aload_n 0, 1) := by decide +kernel
theorem dX12_price_58 : decode cX12_price 58 = .ok (.invokevirtual 177, 3) := by decide +kernel
theorem dX12_price_61 : decode cX12_price 61 = .ok (.ifCond .ne 10, 3) := by decide +kernel
theorem dX12_price_64 : decode cX12_price 64 = .ok (.iconst (-1), 1) := by decide +kernel
theorem dX12_price_65 : decode cX12_price 65 = .ok (.aload_n 0, 1) := by decide +kernel
theorem dX12_price_66 : decode cX12_price 66 = .ok (.getfield 174, 3) := by decide +kernel
theorem dX12_price_69 : decode cX12_price 69 = .ok (.isub, 1) := by decide +kernel
theorem dX12_price_70 : decode cX12_price 70 = .ok (.ireturn, 1) := by decide +kernel
theorem dX12_price_71 : decode cX12_price 71 = .ok (.iconst 0, 1) := by decide +kernel
theorem dX12_price_72 : decode cX12_price 72 = .ok (.istore_n 2, 1) := by decide +kernel
theorem dX12_price_73 : decode cX12_price 73 = .ok (.iload_n 2, 1) := by decide +kernel
theorem dX12_price_74 : decode cX12_price 74 = .ok (.iload_n 1, 1) := by decide +kernel
theorem dX12_price_75 : decode cX12_price 75 = .ok (.if_icmp .ge 21, 3) := by decide +kernel
theorem dX12_price_78 : decode cX12_price 78 = .ok (.aload_n 0, 1) := by decide +kernel
theorem dX12_price_79 : decode cX12_price 79 = .ok (.getfield 65, 3) := by decide +kernel
theorem dX12_price_82 : decode cX12_price 82 = .ok (.iload_n 2, 1) := by decide +kernel
theorem dX12_price_83 : decode cX12_price 83 = .ok (.aload_n 0, 1) := by decide +kernel
theorem dX12_price_84 : decode cX12_price 84 = .ok (.getfield 57, 3) := by decide +kernel
theorem dX12_price_87 : decode cX12_price 87 = .ok (.iload_n 2, 1) := by decide +kernel
theorem dX12_price_88 : decode cX12_price 88 = .ok (.baload, 1) := by decide +kernel
theorem dX12_price_89 : decode cX12_price 89 = .ok (.bastore, 1) := by decide +kernel
theorem dX12_price_90 : decode cX12_price 90 = .ok (.iinc 2 1, 3) := by decide +kernel
theorem dX12_price_93 : decode cX12_price 93 = .ok (.goto (-20), 3) := by decide +kernel
theorem dX12_price_96 : decode cX12_price 96 = .ok (.aload_n 0, 1) := by decide +kernel
theorem dX12_price_97 : decode cX12_price 97 = .ok (.iload_n 1, 1) := by decide +kernel
theorem dX12_price_98 : decode cX12_price 98 = .ok (.putfield 238, 3) := by decide +kernel
theorem dX12_price_101 : decode cX12_price 101 = .ok (.iconst 0, 1) := by decide +kernel
theorem dX12_price_102 : decode cX12_price 102 = .ok (.ireturn, 1) := by decide +kernel
set_option maxRecDepth 100000 in
set_option maxHeartbeats 4000000 in
theorem B_X12_price_0 {κ : Nat → List Value → List Value → m2M → Prop} {D : Nat} {Q : Option Value → m2M → Prop} (h : m2_RL κ cX12_price RX12 3 (D + 1) (some .int) Q) (hD : 0 ≤ D)  {μ : m2M} (k : ∃ Q3 : Option Value → m2M → Prop, m2_MT D yX12_begin cX12_begin 4 none [.ref kM, .ref kM_text, .int (μ.1 kM 19), .int 40] (m2_si μ kM 22 0) Q3 ∧ ∀ (μ2 : m2M), Q3 none μ2 → (((μ.1 kM 19) ≤ 0 → κ 73 [.ref kM, .int (μ.1 kM 19), .int 0] [] (m2_si (m2_si μ2 kM 19 0) kM 30 (-1))) ∧ (¬ (μ.1 kM 19) ≤ 0 → ∃ Q9 : Option Value → m2M → Prop, m2_MT D yX12_held cX12_held 3 (some .int) [.ref kM, .int 0] (m2_si (m2_si μ2 kM 19 0) kM 30 (-1)) Q9 ∧ ∀ (y7 : Int32) (μ8 : m2M), Q9 (some (.int y7)) μ8 → (((μ.1 kM 19) ≤ (μ8.1 kM 26) → ((fX12_fine μ8) = 1 → κ 73 [.ref kM, .int (μ.1 kM 19), .int 0] [] μ8) ∧ (¬ (fX12_fine μ8) = 1 → Q (some (.int (((-1) : Int32) - (μ8.1 kM 27)))) μ8)) ∧ (¬ (μ.1 kM 19) ≤ (μ8.1 kM 26) → ∃ Q19 : Option Value → m2M → Prop, m2_MT D yX12_fault cX12_fault 2 none [.ref kM, .int (μ8.1 kM 26)] μ8 Q19 ∧ ∀ (μ18 : m2M), Q19 none μ18 → (((fX12_fine μ18) = 1 → κ 73 [.ref kM, .int (μ.1 kM 19), .int 0] [] μ18) ∧ (¬ (fX12_fine μ18) = 1 → Q (some (.int (((-1) : Int32) - (μ18.1 kM 27)))) μ18))))))) : κ 0 [.ref kM, .null, .null] [] μ := by
  have hB := h.b
  refine m2_aload_n hB dX12_price_0 rfl ?_
  refine m2_iconst hB dX12_price_1 (v := 0) (by decide) ?_
  refine m2_putI hB dX12_price_2 fl_X12_143 sh_kM rfl ?_
  refine m2_aload_n hB dX12_price_5 rfl ?_
  refine m2_getI hB dX12_price_6 fl_X12_159 sh_kM rfl ?_
  refine m2_istore_n hB (ls' := [.ref kM, .int (μ.1 kM 19), .null]) dX12_price_9 rfl (by decide) rfl ?_
  refine m2_aload_n hB dX12_price_10 rfl ?_
  refine m2_aload_n hB dX12_price_11 rfl ?_
  refine m2_getR hB dX12_price_12 fl_X12_57 sh_kM (c1 := kM_text) rfl ?_
  refine m2_iload_n hB dX12_price_15 rfl ?_
  refine m2_bipush hB dX12_price_16 (v := 40) (by decide) ?_
  obtain ⟨Q3, hM4, k⟩ := k
  refine m2_invv hB (as := [.ref kM_text, .int (μ.1 kM 19), .int 40]) dX12_price_18 mv_X12_193 rfl sh_kM rfl (Nat.le_of_ble_eq_true rfl) rfl hM4 (fun μ2 hq5 => ?_)
  replace k := k μ2 hq5
  refine m2_aload_n hB dX12_price_21 rfl ?_
  refine m2_iconst hB dX12_price_22 (v := 0) (by decide) ?_
  refine m2_putI hB dX12_price_23 fl_X12_159 sh_kM rfl ?_
  refine m2_aload_n hB dX12_price_26 rfl ?_
  refine m2_iconst hB dX12_price_27 (v := (-1)) (by decide) ?_
  refine m2_putI hB dX12_price_28 fl_X12_68 sh_kM rfl ?_
  refine m2_iload_n hB dX12_price_31 rfl ?_
  refine m2_if_le hB dX12_price_32 (tgt := 71) (by decide) (fun q6 : (μ.1 kM 19) ≤ 0 => ?_) (fun q6 : ¬ (μ.1 kM 19) ≤ 0 => ?_)
  · replace k := k.1 q6
    refine m2_iconst hB dX12_price_71 (v := 0) (by decide) ?_
    refine m2_istore_n hB (ls' := [.ref kM, .int (μ.1 kM 19), .int 0]) dX12_price_72 rfl (by decide) rfl ?_
    exact k
  · replace k := k.2 q6
    refine m2_aload_n hB dX12_price_35 rfl ?_
    refine m2_iconst hB dX12_price_36 (v := 0) (by decide) ?_
    obtain ⟨Q9, hM10, k⟩ := k
    refine m2_invi hB (as := [.int 0]) dX12_price_37 mv_X12_225 rfl sh_kM rfl (Nat.le_of_ble_eq_true rfl) rfl hM10 (fun y7 μ8 hq11 => ?_)
    replace k := k y7 μ8 hq11
    refine m2_pop hB dX12_price_40 rfl ?_
    refine m2_aload_n hB dX12_price_41 rfl ?_
    refine m2_getI hB dX12_price_42 fl_X12_171 sh_kM rfl ?_
    refine m2_iload_n hB dX12_price_45 rfl ?_
    refine m2_icmp_ge hB dX12_price_46 (tgt := 57) (by decide) (fun q12 : (μ.1 kM 19) ≤ (μ8.1 kM 26) => ?_) (fun q12 : ¬ (μ.1 kM 19) ≤ (μ8.1 kM 26) => ?_)
    · replace k := k.1 q12
      refine m2_aload_n hB dX12_price_57 rfl ?_
      refine m2_invz hB (as := []) dX12_price_58 mv_X12_177 rfl sh_kM rfl (Nat.le_of_ble_eq_true rfl) rfl (P_X12_fine (by omega)  _ ) (fun y13 μ14 hq15 => ?_)
      obtain ⟨⟨⟩, hq15⟩ := hq15
      subst μ14
      show κ 61 [.ref kM, .int (μ.1 kM 19), .null] [.int (if (fX12_fine μ8) = 1 then 1 else 0 : Int32)] μ8
      by_cases q16 : (fX12_fine μ8) = 1
      · rw [if_pos q16]
        replace k := k.1 q16
        refine m2_if_ne hB dX12_price_61 (tgt := 71) (by decide) (fun _ => ?_) (fun q => absurd q (by decide))
        refine m2_iconst hB dX12_price_71 (v := 0) (by decide) ?_
        refine m2_istore_n hB (ls' := [.ref kM, .int (μ.1 kM 19), .int 0]) dX12_price_72 rfl (by decide) rfl ?_
        exact k
      · rw [if_neg q16]
        replace k := k.2 q16
        refine m2_if_ne hB dX12_price_61 (tgt := 71) (by decide) (fun q => absurd q (by decide)) (fun _ => ?_)
        refine m2_iconst hB dX12_price_64 (v := (-1)) (by decide) ?_
        refine m2_aload_n hB dX12_price_65 rfl ?_
        refine m2_getI hB dX12_price_66 fl_X12_174 sh_kM rfl ?_
        refine m2_isub hB dX12_price_69 ?_
        exact m2_iret h dX12_price_70 k
    · replace k := k.2 q12
      refine m2_aload_n hB dX12_price_49 rfl ?_
      refine m2_aload_n hB dX12_price_50 rfl ?_
      refine m2_getI hB dX12_price_51 fl_X12_171 sh_kM rfl ?_
      obtain ⟨Q19, hM20, k⟩ := k
      refine m2_invv hB (as := [.int (μ8.1 kM 26)]) dX12_price_54 mv_X12_189 rfl sh_kM rfl (Nat.le_of_ble_eq_true rfl) rfl hM20 (fun μ18 hq21 => ?_)
      replace k := k μ18 hq21
      refine m2_aload_n hB dX12_price_57 rfl ?_
      refine m2_invz hB (as := []) dX12_price_58 mv_X12_177 rfl sh_kM rfl (Nat.le_of_ble_eq_true rfl) rfl (P_X12_fine (by omega)  _ ) (fun y22 μ23 hq24 => ?_)
      obtain ⟨⟨⟩, hq24⟩ := hq24
      subst μ23
      show κ 61 [.ref kM, .int (μ.1 kM 19), .null] [.int (if (fX12_fine μ18) = 1 then 1 else 0 : Int32)] μ18
      by_cases q25 : (fX12_fine μ18) = 1
      · rw [if_pos q25]
        replace k := k.1 q25
        refine m2_if_ne hB dX12_price_61 (tgt := 71) (by decide) (fun _ => ?_) (fun q => absurd q (by decide))
        refine m2_iconst hB dX12_price_71 (v := 0) (by decide) ?_
        refine m2_istore_n hB (ls' := [.ref kM, .int (μ.1 kM 19), .int 0]) dX12_price_72 rfl (by decide) rfl ?_
        exact k
      · rw [if_neg q25]
        replace k := k.2 q25
        refine m2_if_ne hB dX12_price_61 (tgt := 71) (by decide) (fun q => absurd q (by decide)) (fun _ => ?_)
        refine m2_iconst hB dX12_price_64 (v := (-1)) (by decide) ?_
        refine m2_aload_n hB dX12_price_65 rfl ?_
        refine m2_getI hB dX12_price_66 fl_X12_174 sh_kM rfl ?_
        refine m2_isub hB dX12_price_69 ?_
        exact m2_iret h dX12_price_70 k
set_option maxRecDepth 100000 in
set_option maxHeartbeats 4000000 in
theorem B_X12_price_73 {κ : Nat → List Value → List Value → m2M → Prop} {D : Nat} {Q : Option Value → m2M → Prop} (h : m2_RL κ cX12_price RX12 3 D (some .int) Q) {v1 : Int32} {v2 : Int32} {μ : m2M} (k : (v1 ≤ v2 → Q (some (.int 0)) (m2_si μ kM 29 v1)) ∧ (¬ v1 ≤ v2 → (vp_in v2 80) ∧ ((vp_in v2 40) ∧ (κ 73 [.ref kM, .int v1, .int (v2 + 1)] [] (m2_si μ kM_price (v2).toNatClampNeg (vp_nar .byte (μ.1 kM_text (v2).toNatClampNeg))))))) : κ 73 [.ref kM, .int v1, .int v2] [] μ := by
  have hB := h.b
  refine m2_iload_n hB dX12_price_73 rfl ?_
  refine m2_iload_n hB dX12_price_74 rfl ?_
  refine m2_icmp_ge hB dX12_price_75 (tgt := 96) (by decide) (fun q2 : v1 ≤ v2 => ?_) (fun q2 : ¬ v1 ≤ v2 => ?_)
  · replace k := k.1 q2
    refine m2_aload_n hB dX12_price_96 rfl ?_
    refine m2_iload_n hB dX12_price_97 rfl ?_
    refine m2_putI hB dX12_price_98 fl_X12_238 sh_kM rfl ?_
    refine m2_iconst hB dX12_price_101 (v := 0) (by decide) ?_
    exact m2_iret h dX12_price_102 k
  · replace k := k.2 q2
    refine m2_aload_n hB dX12_price_78 rfl ?_
    refine m2_getR hB dX12_price_79 fl_X12_65 sh_kM (c1 := kM_price) rfl ?_
    refine m2_iload_n hB dX12_price_82 rfl ?_
    refine m2_aload_n hB dX12_price_83 rfl ?_
    refine m2_getR hB dX12_price_84 fl_X12_57 sh_kM (c1 := kM_text) rfl ?_
    refine m2_iload_n hB dX12_price_87 rfl ?_
    obtain ⟨hi3, k⟩ := k
    refine m2_bald hB dX12_price_88 sh_kM_text hi3 ?_
    obtain ⟨hi4, k⟩ := k
    refine m2_bast hB dX12_price_89 sh_kM_price hi4 ?_
    refine m2_iinc hB (ls' := [.ref kM, .int v1, .int (v2 + 1)]) (v := (v2 + 1)) dX12_price_90 rfl (by decide) rfl rfl ?_
    refine m2_goto hB dX12_price_93 (tgt := 73) (by decide) ?_
    exact k
theorem dX12_findTheirWays_0 : decode cX12_findTheirWays 0 = .ok (.iconst 0, 1) := by decide +kernel
theorem dX12_findTheirWays_1 : decode cX12_findTheirWays 1 = .ok (.istore_n 1, 1) := by decide +kernel
theorem dX12_findTheirWays_2 : decode cX12_findTheirWays 2 = .ok (.iload_n 1, 1) := by decide +kernel
theorem dX12_findTheirWays_3 : decode cX12_findTheirWays 3 = .ok (.aload_n 0, 1) := by decide +kernel
theorem dX12_findTheirWays_4 : decode cX12_findTheirWays 4 = .ok (.getfield 153, 3) := by decide +kernel
theorem dX12_findTheirWays_7 : decode cX12_findTheirWays 7 = .ok (.if_icmp .ge 16, 3) := by decide +kernel
theorem dX12_findTheirWays_10 : decode cX12_findTheirWays 10 = .ok (.aload_n 0, 1) := by decide +kernel
theorem dX12_findTheirWays_11 : decode cX12_findTheirWays 11 = .ok (.getfield 74, 3) := by decide +kernel
theorem dX12_findTheirWays_14 : decode cX12_findTheirWays 14 = .ok (.iload_n 1, 1) := by decide +kernel
theorem dX12_findTheirWays_15 : decode cX12_findTheirWays 15 = .ok (.iconst 0, 1) := by decide +kernel
theorem dX12_findTheirWays_16 : decode cX12_findTheirWays 16 = .ok (.iastore, 1) := by decide +kernel
theorem dX12_findTheirWays_17 : decode cX12_findTheirWays 17 = .ok (.iinc 1 1, 3) := by decide +kernel
theorem dX12_findTheirWays_20 : decode cX12_findTheirWays 20 = .ok (.goto (-18), 3) := by decide +kernel
theorem dX12_findTheirWays_23 : decode cX12_findTheirWays 23 = .ok (.iconst 0, 1) := by decide +kernel
theorem dX12_findTheirWays_24 : decode cX12_findTheirWays 24 = .ok (.istore_n 1, 1) := by decide +kernel
theorem dX12_findTheirWays_25 : decode cX12_findTheirWays 25 = .ok (.iload_n 1, 1) := by decide +kernel
theorem dX12_findTheirWays_26 : decode cX12_findTheirWays 26 = .ok (.aload_n 0, 1) := by decide +kernel
theorem dX12_findTheirWays_27 : decode cX12_findTheirWays 27 = .ok (.getfield 156, 3) := by decide +kernel
theorem dX12_findTheirWays_30 : decode cX12_findTheirWays 30 = .ok (.if_icmp .ge 112, 3) := by decide +kernel
theorem dX12_findTheirWays_33 : decode cX12_findTheirWays 33 = .ok (.aload_n 0, 1) := by decide +kernel
theorem dX12_findTheirWays_34 : decode cX12_findTheirWays 34 = .ok (.iload_n 1, 1) := by decide +kernel
theorem dX12_findTheirWays_35 : decode cX12_findTheirWays 35 = .ok (.invokevirtual 241, 3) := by decide +kernel
theorem dX12_findTheirWays_38 : decode cX12_findTheirWays 38 = .ok (.iconst (-1), 1) := by decide +kernel
theorem dX12_findTheirWays_39 : decode cX12_findTheirWays 39 = .ok (.if_icmp .ne 6, 3) := by decide +kernel
theorem dX12_findTheirWays_42 : decode cX12_findTheirWays 42 = .ok (.goto 94, 3) := by decide +kernel
theorem dX12_findTheirWays_45 : decode cX12_findTheirWays 45 = .ok (.iconst 0, 1) := by decide +kernel
theorem dX12_findTheirWays_46 : decode cX12_findTheirWays 46 = .ok (.istore_n 2, 1) := by decide +kernel
theorem dX12_findTheirWays_47 : decode cX12_findTheirWays 47 = .ok (.iload_n 2, 1) := by decide +kernel
theorem dX12_findTheirWays_48 : decode cX12_findTheirWays 48 = .ok (.aload_n 0, 1) := by decide +kernel
theorem dX12_findTheirWays_49 : decode cX12_findTheirWays 49 = .ok (.getfield 153, 3) := by decide +kernel
theorem dX12_findTheirWays_52 : decode cX12_findTheirWays 52 = .ok (.if_icmp .ge 30, 3) := by decide +kernel
theorem dX12_findTheirWays_55 : decode cX12_findTheirWays 55 = .ok (.aload_n 0, 1) := by decide +kernel
theorem dX12_findTheirWays_56 : decode cX12_findTheirWays 56 = .ok (.getfield 77, 3) := by decide +kernel
theorem dX12_findTheirWays_59 : decode cX12_findTheirWays 59 = .ok (.iload_n 2, 1) := by decide +kernel
theorem dX12_findTheirWays_60 : decode cX12_findTheirWays 60 = .ok (.aload_n 0, 1) := by decide +kernel
theorem dX12_findTheirWays_61 : decode cX12_findTheirWays 61 = .ok (.getfield 23, 3) := by decide +kernel
theorem dX12_findTheirWays_64 : decode cX12_findTheirWays 64 = .ok (.iload_n 2, 1) := by decide +kernel
theorem dX12_findTheirWays_65 : decode cX12_findTheirWays 65 = .ok (.iaload, 1) := by decide +kernel
theorem dX12_findTheirWays_66 : decode cX12_findTheirWays 66 = .ok (.ifCond .le 7, 3) := by decide +kernel
theorem dX12_findTheirWays_69 : decode cX12_findTheirWays 69 = .ok (.iconst 1, 1) := by decide +kernel
theorem dX12_findTheirWays_70 : decode cX12_findTheirWays 70 = .ok (.goto 5, 3) := by decide +kernel
theorem dX12_findTheirWays_73 : decode cX12_findTheirWays 73 = .ok (.ldc 244, 2) := by decide +kernel
theorem dX12_findTheirWays_75 : decode cX12_findTheirWays 75 = .ok (.iastore, 1) := by decide +kernel
theorem dX12_findTheirWays_76 : decode cX12_findTheirWays 76 = .ok (.iinc 2 1, 3) := by decide +kernel
theorem dX12_findTheirWays_79 : decode cX12_findTheirWays 79 = .ok (.goto (-32), 3) := by decide +kernel
theorem dX12_findTheirWays_82 : decode cX12_findTheirWays 82 = .ok (.aload_n 0, 1) := by decide +kernel
theorem dX12_findTheirWays_83 : decode cX12_findTheirWays 83 = .ok (.aload_n 0, 1) := by decide +kernel
theorem dX12_findTheirWays_84 : decode cX12_findTheirWays 84 = .ok (.getfield 29, 3) := by decide +kernel
theorem dX12_findTheirWays_87 : decode cX12_findTheirWays 87 = .ok (.iload_n 1, 1) := by decide +kernel
theorem dX12_findTheirWays_88 : decode cX12_findTheirWays 88 = .ok (.iaload, 1) := by decide +kernel
theorem dX12_findTheirWays_89 : decode cX12_findTheirWays 89 = .ok (.aload_n 0, 1) := by decide +kernel
theorem dX12_findTheirWays_90 : decode cX12_findTheirWays 90 = .ok (.iload_n 1, 1) := by decide +kernel
theorem dX12_findTheirWays_91 : decode cX12_findTheirWays 91 = .ok (.invokevirtual 241, 3) := by decide +kernel
theorem dX12_findTheirWays_94 : decode cX12_findTheirWays 94 = .ok (.invokevirtual 245, 3) := by decide +kernel
theorem dX12_findTheirWays_97 : decode cX12_findTheirWays 97 = .ok (.ifCond .ne 6, 3) := by decide +kernel
theorem dX12_findTheirWays_100 : decode cX12_findTheirWays 100 = .ok (.goto 36, 3) := by decide +kernel
theorem dX12_findTheirWays_103 : decode cX12_findTheirWays 103 = .ok (.iconst 0, 1) := by decide +kernel
theorem dX12_findTheirWays_104 : decode cX12_findTheirWays 104 = .ok (.istore_n 2, 1) := by decide +kernel
theorem dX12_findTheirWays_105 : decode cX12_findTheirWays 105 = .ok (.iload_n 2, 1) := by decide +kernel
theorem dX12_findTheirWays_106 : decode cX12_findTheirWays 106 = .ok (.aload_n 0, 1) := by decide +kernel
theorem dX12_findTheirWays_107 : decode cX12_findTheirWays 107 = .ok (.getfield 248, 3) := by decide +kernel
theorem dX12_findTheirWays_110 : decode cX12_findTheirWays 110 = .ok (.if_icmp .ge 26, 3) := by decide +kernel
theorem dX12_findTheirWays_113 : decode cX12_findTheirWays 113 = .ok (.aload_n 0, 1) := by decide +kernel
theorem dX12_findTheirWays_114 : decode cX12_findTheirWays 114 = .ok (.getfield 74, 3) := by decide +kernel
theorem dX12_findTheirWays_117 : decode cX12_findTheirWays 117 = .ok (.aload_n 0, 1) := by decide +kernel
theorem dX12_findTheirWays_118 : decode cX12_findTheirWays 118 = .ok (.getfield 83, 3) := by decide +kernel
theorem dX12_findTheirWays_121 : decode cX12_findTheirWays 121 = .ok (.iload_n 2, 1) := by decide +kernel
theorem dX12_findTheirWays_122 : decode cX12_findTheirWays 122 = .ok (.iaload, 1) := by decide +kernel
theorem dX12_findTheirWays_123 : decode cX12_findTheirWays 123 = .ok (.dup2, 1) := by decide +kernel
theorem dX12_findTheirWays_124 : decode cX12_findTheirWays 124 = .ok (.iaload, 1) := by decide +kernel
theorem dX12_findTheirWays_125 : decode cX12_findTheirWays 125 = .ok (.iconst 1, 1) := by decide +kernel
theorem dX12_findTheirWays_126 : decode cX12_findTheirWays 126 = .ok (.iload_n 1, 1) := by decide +kernel
theorem dX12_findTheirWays_127 : decode cX12_findTheirWays 127 = .ok (.ishl, 1) := by decide +kernel
theorem dX12_findTheirWays_128 : decode cX12_findTheirWays 128 = .ok (.ior, 1) := by decide +kernel
theorem dX12_findTheirWays_129 : decode cX12_findTheirWays 129 = .ok (.iastore, 1) := by decide +kernel
theorem dX12_findTheirWays_130 : decode cX12_findTheirWays 130 = .ok (.iinc 2 1, 3) := by decide +kernel
theorem dX12_findTheirWays_133 : decode cX12_findTheirWays 133 = .ok (.goto (-28), 3) := by decide +kernel
theorem dX12_findTheirWays_136 : decode cX12_findTheirWays 136 = .ok (.iinc 1 1, 3) := by decide +kernel
theorem dX12_findTheirWays_139 : decode cX12_findTheirWays 139 = .ok (.goto (-114), 3) := by decide +kernel
theorem dX12_findTheirWays_142 : decode cX12_findTheirWays 142 = .ok (.iconst 0, 1) := by decide +kernel
theorem dX12_findTheirWays_143 : decode cX12_findTheirWays 143 = .ok (.istore_n 1, 1) := by decide +kernel
theorem dX12_findTheirWays_144 : decode cX12_findTheirWays 144 = .ok (.iload_n 1, 1) := by decide +kernel
theorem dX12_findTheirWays_145 : decode cX12_findTheirWays 145 = .ok (.aload_n 0, 1) := by decide +kernel
theorem dX12_findTheirWays_146 : decode cX12_findTheirWays 146 = .ok (.getfield 153, 3) := by decide +kernel
theorem dX12_findTheirWays_149 : decode cX12_findTheirWays 149 = .ok (.if_icmp .ge 24, 3) := by decide +kernel
theorem dX12_findTheirWays_152 : decode cX12_findTheirWays 152 = .ok (.aload_n 0, 1) := by decide +kernel
theorem dX12_findTheirWays_153 : decode cX12_findTheirWays 153 = .ok (.getfield 71, 3) := by decide +kernel
theorem dX12_findTheirWays_156 : decode cX12_findTheirWays 156 = .ok (.iload_n 1, 1) := by decide +kernel
theorem dX12_findTheirWays_157 : decode cX12_findTheirWays 157 = .ok (.aload_n 0, 1) := by decide +kernel
theorem dX12_findTheirWays_158 : decode cX12_findTheirWays 158 = .ok (.getfield 74, 3) := by decide +kernel
theorem dX12_findTheirWays_161 : decode cX12_findTheirWays 161 = .ok (.iload_n 1, 1) := by decide +kernel
theorem dX12_findTheirWays_162 : decode cX12_findTheirWays 162 = .ok (.iaload, 1) := by decide +kernel
theorem dX12_findTheirWays_163 : decode cX12_findTheirWays 163 = .ok (.invokestatic 251, 3) := by decide +kernel
theorem dX12_findTheirWays_166 : decode cX12_findTheirWays 166 = .ok (.iastore, 1) := by decide +kernel
theorem dX12_findTheirWays_167 : decode cX12_findTheirWays 167 = .ok (.iinc 1 1, 3) := by decide +kernel
theorem dX12_findTheirWays_170 : decode cX12_findTheirWays 170 = .ok (.goto (-26), 3) := by decide +kernel
theorem dX12_findTheirWays_173 : decode cX12_findTheirWays 173 = .ok (.return_, 1) := by decide +kernel
set_option maxRecDepth 100000 in
set_option maxHeartbeats 4000000 in
theorem B_X12_findTheirWays_0 {κ : Nat → List Value → List Value → m2M → Prop} {D : Nat} {Q : Option Value → m2M → Prop} (h : m2_RL κ cX12_findTheirWays RX12 3 D none Q)  {μ : m2M} (k : κ 2 [.ref kM, .int 0, .null] [] μ) : κ 0 [.ref kM, .null, .null] [] μ := by
  have hB := h.b
  refine m2_iconst hB dX12_findTheirWays_0 (v := 0) (by decide) ?_
  refine m2_istore_n hB (ls' := [.ref kM, .int 0, .null]) dX12_findTheirWays_1 rfl (by decide) rfl ?_
  exact k
set_option maxRecDepth 100000 in
set_option maxHeartbeats 4000000 in
theorem B_X12_findTheirWays_2 {κ : Nat → List Value → List Value → m2M → Prop} {D : Nat} {Q : Option Value → m2M → Prop} (h : m2_RL κ cX12_findTheirWays RX12 3 D none Q) {v1 : Int32} {μ : m2M} (k : ((μ.1 kM 0) ≤ v1 → κ 25 [.ref kM, .int 0, .null] [] μ) ∧ (¬ (μ.1 kM 0) ≤ v1 → (vp_in v1 20) ∧ (κ 2 [.ref kM, .int (v1 + 1), .null] [] (m2_si μ kM_isOnWay (v1).toNatClampNeg 0)))) : κ 2 [.ref kM, .int v1, .null] [] μ := by
  have hB := h.b
  refine m2_iload_n hB dX12_findTheirWays_2 rfl ?_
  refine m2_aload_n hB dX12_findTheirWays_3 rfl ?_
  refine m2_getI hB dX12_findTheirWays_4 fl_X12_153 sh_kM rfl ?_
  refine m2_icmp_ge hB dX12_findTheirWays_7 (tgt := 23) (by decide) (fun q2 : (μ.1 kM 0) ≤ v1 => ?_) (fun q2 : ¬ (μ.1 kM 0) ≤ v1 => ?_)
  · replace k := k.1 q2
    refine m2_iconst hB dX12_findTheirWays_23 (v := 0) (by decide) ?_
    refine m2_istore_n hB (ls' := [.ref kM, .int 0, .null]) dX12_findTheirWays_24 rfl (by decide) rfl ?_
    exact k
  · replace k := k.2 q2
    refine m2_aload_n hB dX12_findTheirWays_10 rfl ?_
    refine m2_getR hB dX12_findTheirWays_11 fl_X12_74 sh_kM (c1 := kM_isOnWay) rfl ?_
    refine m2_iload_n hB dX12_findTheirWays_14 rfl ?_
    refine m2_iconst hB dX12_findTheirWays_15 (v := 0) (by decide) ?_
    obtain ⟨hi3, k⟩ := k
    refine m2_iast hB dX12_findTheirWays_16 sh_kM_isOnWay hi3 ?_
    refine m2_iinc hB (ls' := [.ref kM, .int (v1 + 1), .null]) (v := (v1 + 1)) dX12_findTheirWays_17 rfl (by decide) rfl rfl ?_
    refine m2_goto hB dX12_findTheirWays_20 (tgt := 2) (by decide) ?_
    exact k
set_option maxRecDepth 100000 in
set_option maxHeartbeats 4000000 in
theorem B_X12_findTheirWays_25 {κ : Nat → List Value → List Value → m2M → Prop} {D : Nat} {Q : Option Value → m2M → Prop} (h : m2_RL κ cX12_findTheirWays RX12 3 (D + 1) none Q) (hD : 0 ≤ D) {v1 : Int32} {μ : m2M} (k : ((μ.1 kM 7) ≤ v1 → κ 144 [.ref kM, .int 0, .null] [] μ) ∧ (¬ (μ.1 kM 7) ≤ v1 → (vp_in v1 8) ∧ ((¬ (fX12_nextOf v1 μ) = (-1) → κ 47 [.ref kM, .int v1, .int 0] [] μ) ∧ ((fX12_nextOf v1 μ) = (-1) → κ 25 [.ref kM, .int (v1 + 1), .null] [] μ)))) : κ 25 [.ref kM, .int v1, .null] [] μ := by
  have hB := h.b
  refine m2_iload_n hB dX12_findTheirWays_25 rfl ?_
  refine m2_aload_n hB dX12_findTheirWays_26 rfl ?_
  refine m2_getI hB dX12_findTheirWays_27 fl_X12_156 sh_kM rfl ?_
  refine m2_icmp_ge hB dX12_findTheirWays_30 (tgt := 142) (by decide) (fun q1 : (μ.1 kM 7) ≤ v1 => ?_) (fun q1 : ¬ (μ.1 kM 7) ≤ v1 => ?_)
  · replace k := k.1 q1
    refine m2_iconst hB dX12_findTheirWays_142 (v := 0) (by decide) ?_
    refine m2_istore_n hB (ls' := [.ref kM, .int 0, .null]) dX12_findTheirWays_143 rfl (by decide) rfl ?_
    exact k
  · replace k := k.2 q1
    refine m2_aload_n hB dX12_findTheirWays_33 rfl ?_
    refine m2_iload_n hB dX12_findTheirWays_34 rfl ?_
    obtain ⟨hs2, k⟩ := k
    refine m2_invi hB (as := [.int v1]) dX12_findTheirWays_35 mv_X12_241 rfl sh_kM rfl (Nat.le_of_ble_eq_true rfl) rfl (P_X12_nextOf (by omega) (v1) _ hs2) (fun y3 μ4 hq5 => ?_)
    obtain ⟨⟨⟩, hq5⟩ := hq5
    subst μ4
    refine m2_iconst hB dX12_findTheirWays_38 (v := (-1)) (by decide) ?_
    refine m2_icmp_ne hB dX12_findTheirWays_39 (tgt := 45) (by decide) (fun q6 : ¬ (fX12_nextOf v1 μ) = (-1) => ?_) (fun q6 : (fX12_nextOf v1 μ) = (-1) => ?_)
    · replace k := k.1 q6
      refine m2_iconst hB dX12_findTheirWays_45 (v := 0) (by decide) ?_
      refine m2_istore_n hB (ls' := [.ref kM, .int v1, .int 0]) dX12_findTheirWays_46 rfl (by decide) rfl ?_
      exact k
    · replace k := k.2 q6
      refine m2_goto hB dX12_findTheirWays_42 (tgt := 136) (by decide) ?_
      refine m2_iinc hB (ls' := [.ref kM, .int (v1 + 1), .null]) (v := (v1 + 1)) dX12_findTheirWays_136 rfl (by decide) rfl rfl ?_
      refine m2_goto hB dX12_findTheirWays_139 (tgt := 25) (by decide) ?_
      exact k
set_option maxRecDepth 100000 in
set_option maxHeartbeats 4000000 in
theorem B_X12_findTheirWays_47 {κ : Nat → List Value → List Value → m2M → Prop} {D : Nat} {Q : Option Value → m2M → Prop} (h : m2_RL κ cX12_findTheirWays RX12 3 (D + 1) none Q) (hD : 0 ≤ D) {v1 : Int32} {v2 : Int32} {μ : m2M} (k : ((μ.1 kM 0) ≤ v2 → (vp_in v1 8) ∧ (∃ Q10 : Option Value → m2M → Prop, m2_MT D yX12_findWay cX12_findWay 7 (some .boolean) [.ref kM, .int (μ.1 kM_where (v1).toNatClampNeg), .int (fX12_nextOf v1 μ)] μ Q10 ∧ ∀ (y8 : Int32) (μ9 : m2M), Q10 (some (.int y8)) μ9 → ((¬ y8 = 0 → κ 105 [.ref kM, .int v1, .int 0] [] μ9) ∧ (y8 = 0 → κ 25 [.ref kM, .int (v1 + 1), .null] [] μ9)))) ∧ (¬ (μ.1 kM 0) ≤ v2 → (vp_in v2 20) ∧ (κ 47 [.ref kM, .int v1, .int (v2 + 1)] [] (m2_si μ kM_cost (v2).toNatClampNeg (if (μ.1 kM_left (v2).toNatClampNeg) ≤ 0 then 100000000 else 1 : Int32))))) : κ 47 [.ref kM, .int v1, .int v2] [] μ := by
  have hB := h.b
  refine m2_iload_n hB dX12_findTheirWays_47 rfl ?_
  refine m2_aload_n hB dX12_findTheirWays_48 rfl ?_
  refine m2_getI hB dX12_findTheirWays_49 fl_X12_153 sh_kM rfl ?_
  refine m2_icmp_ge hB dX12_findTheirWays_52 (tgt := 82) (by decide) (fun q2 : (μ.1 kM 0) ≤ v2 => ?_) (fun q2 : ¬ (μ.1 kM 0) ≤ v2 => ?_)
  · replace k := k.1 q2
    refine m2_aload_n hB dX12_findTheirWays_82 rfl ?_
    refine m2_aload_n hB dX12_findTheirWays_83 rfl ?_
    refine m2_getR hB dX12_findTheirWays_84 fl_X12_29 sh_kM (c1 := kM_where) rfl ?_
    refine m2_iload_n hB dX12_findTheirWays_87 rfl ?_
    obtain ⟨hi3, k⟩ := k
    refine m2_iald hB dX12_findTheirWays_88 sh_kM_where hi3 ?_
    refine m2_aload_n hB dX12_findTheirWays_89 rfl ?_
    refine m2_iload_n hB dX12_findTheirWays_90 rfl ?_
    have hs4 := hi3
    refine m2_invi hB (as := [.int v1]) dX12_findTheirWays_91 mv_X12_241 rfl sh_kM rfl (Nat.le_of_ble_eq_true rfl) rfl (P_X12_nextOf (by omega) (v1) _ hs4) (fun y5 μ6 hq7 => ?_)
    obtain ⟨⟨⟩, hq7⟩ := hq7
    subst μ6
    obtain ⟨Q10, hM11, k⟩ := k
    refine m2_invz hB (as := [.int (μ.1 kM_where (v1).toNatClampNeg), .int (fX12_nextOf v1 μ)]) dX12_findTheirWays_94 mv_X12_245 rfl sh_kM rfl (Nat.le_of_ble_eq_true rfl) rfl hM11 (fun y8 μ9 hq12 => ?_)
    replace k := k y8 μ9 hq12
    refine m2_if_ne hB dX12_findTheirWays_97 (tgt := 103) (by decide) (fun q13 : ¬ y8 = 0 => ?_) (fun q13 : y8 = 0 => ?_)
    · replace k := k.1 q13
      refine m2_iconst hB dX12_findTheirWays_103 (v := 0) (by decide) ?_
      refine m2_istore_n hB (ls' := [.ref kM, .int v1, .int 0]) dX12_findTheirWays_104 rfl (by decide) rfl ?_
      exact k
    · replace k := k.2 q13
      refine m2_goto hB dX12_findTheirWays_100 (tgt := 136) (by decide) ?_
      refine m2_iinc hB (ls' := [.ref kM, .int (v1 + 1), .int v2]) (v := (v1 + 1)) dX12_findTheirWays_136 rfl (by decide) rfl rfl ?_
      refine m2_goto hB dX12_findTheirWays_139 (tgt := 25) (by decide) ?_
      exact m2_weak (ls' := [.ref kM, .int (v1 + 1), .null]) hB ⟨Or.inr rfl, Or.inr rfl, Or.inl rfl, trivial⟩ k
  · replace k := k.2 q2
    refine m2_aload_n hB dX12_findTheirWays_55 rfl ?_
    refine m2_getR hB dX12_findTheirWays_56 fl_X12_77 sh_kM (c1 := kM_cost) rfl ?_
    refine m2_iload_n hB dX12_findTheirWays_59 rfl ?_
    refine m2_aload_n hB dX12_findTheirWays_60 rfl ?_
    refine m2_getR hB dX12_findTheirWays_61 fl_X12_23 sh_kM (c1 := kM_left) rfl ?_
    refine m2_iload_n hB dX12_findTheirWays_64 rfl ?_
    obtain ⟨hi14, k⟩ := k
    refine m2_iald hB dX12_findTheirWays_65 sh_kM_left hi14 ?_
    have G16 : κ 75 [.ref kM, .int v1, .int v2] [.int (if (μ.1 kM_left (v2).toNatClampNeg) ≤ 0 then 100000000 else 1 : Int32), .int v2, .ref kM_cost] μ := by
      have hi17 := hi14
      refine m2_iast hB dX12_findTheirWays_75 sh_kM_cost hi17 ?_
      refine m2_iinc hB (ls' := [.ref kM, .int v1, .int (v2 + 1)]) (v := (v2 + 1)) dX12_findTheirWays_76 rfl (by decide) rfl rfl ?_
      refine m2_goto hB dX12_findTheirWays_79 (tgt := 47) (by decide) ?_
      exact k
    refine m2_if_le hB dX12_findTheirWays_66 (tgt := 73) (by decide) (fun q15 : (μ.1 kM_left (v2).toNatClampNeg) ≤ 0 => ?_) (fun q15 : ¬ (μ.1 kM_left (v2).toNatClampNeg) ≤ 0 => ?_)
    · rw [if_pos q15] at G16
      refine m2_ldc hB kc_X12_244 dX12_findTheirWays_73 ?_
      exact G16
    · rw [if_neg q15] at G16
      refine m2_iconst hB dX12_findTheirWays_69 (v := 1) (by decide) ?_
      refine m2_goto hB dX12_findTheirWays_70 (tgt := 75) (by decide) ?_
      exact G16
set_option maxRecDepth 100000 in
set_option maxHeartbeats 4000000 in
theorem B_X12_findTheirWays_105 {κ : Nat → List Value → List Value → m2M → Prop} {D : Nat} {Q : Option Value → m2M → Prop} (h : m2_RL κ cX12_findTheirWays RX12 3 D none Q) {v1 : Int32} {v2 : Int32} {μ : m2M} (k : ((μ.1 kM 37) ≤ v2 → κ 25 [.ref kM, .int (v1 + 1), .null] [] μ) ∧ (¬ (μ.1 kM 37) ≤ v2 → (vp_in v2 12) ∧ ((vp_in (μ.1 kM_way (v2).toNatClampNeg) 20) ∧ (κ 105 [.ref kM, .int v1, .int (v2 + 1)] [] (m2_si μ kM_isOnWay ((μ.1 kM_way (v2).toNatClampNeg)).toNatClampNeg ((μ.1 kM_isOnWay ((μ.1 kM_way (v2).toNatClampNeg)).toNatClampNeg) ||| ((1 : Int32) <<< (v1 &&& 31)))))))) : κ 105 [.ref kM, .int v1, .int v2] [] μ := by
  have hB := h.b
  refine m2_iload_n hB dX12_findTheirWays_105 rfl ?_
  refine m2_aload_n hB dX12_findTheirWays_106 rfl ?_
  refine m2_getI hB dX12_findTheirWays_107 fl_X12_248 sh_kM rfl ?_
  refine m2_icmp_ge hB dX12_findTheirWays_110 (tgt := 136) (by decide) (fun q2 : (μ.1 kM 37) ≤ v2 => ?_) (fun q2 : ¬ (μ.1 kM 37) ≤ v2 => ?_)
  · replace k := k.1 q2
    refine m2_iinc hB (ls' := [.ref kM, .int (v1 + 1), .int v2]) (v := (v1 + 1)) dX12_findTheirWays_136 rfl (by decide) rfl rfl ?_
    refine m2_goto hB dX12_findTheirWays_139 (tgt := 25) (by decide) ?_
    exact m2_weak (ls' := [.ref kM, .int (v1 + 1), .null]) hB ⟨Or.inr rfl, Or.inr rfl, Or.inl rfl, trivial⟩ k
  · replace k := k.2 q2
    refine m2_aload_n hB dX12_findTheirWays_113 rfl ?_
    refine m2_getR hB dX12_findTheirWays_114 fl_X12_74 sh_kM (c1 := kM_isOnWay) rfl ?_
    refine m2_aload_n hB dX12_findTheirWays_117 rfl ?_
    refine m2_getR hB dX12_findTheirWays_118 fl_X12_83 sh_kM (c1 := kM_way) rfl ?_
    refine m2_iload_n hB dX12_findTheirWays_121 rfl ?_
    obtain ⟨hi3, k⟩ := k
    refine m2_iald hB dX12_findTheirWays_122 sh_kM_way hi3 ?_
    refine m2_dup2 hB dX12_findTheirWays_123 rfl rfl ?_
    obtain ⟨hi4, k⟩ := k
    refine m2_iald hB dX12_findTheirWays_124 sh_kM_isOnWay hi4 ?_
    refine m2_iconst hB dX12_findTheirWays_125 (v := 1) (by decide) ?_
    refine m2_iload_n hB dX12_findTheirWays_126 rfl ?_
    refine m2_ishl hB dX12_findTheirWays_127 ?_
    refine m2_ior hB dX12_findTheirWays_128 ?_
    have hi5 := hi4
    refine m2_iast hB dX12_findTheirWays_129 sh_kM_isOnWay hi5 ?_
    refine m2_iinc hB (ls' := [.ref kM, .int v1, .int (v2 + 1)]) (v := (v2 + 1)) dX12_findTheirWays_130 rfl (by decide) rfl rfl ?_
    refine m2_goto hB dX12_findTheirWays_133 (tgt := 105) (by decide) ?_
    exact k
set_option maxRecDepth 100000 in
set_option maxHeartbeats 4000000 in
theorem B_X12_findTheirWays_144 {κ : Nat → List Value → List Value → m2M → Prop} {D : Nat} {Q : Option Value → m2M → Prop} (h : m2_RL κ cX12_findTheirWays RX12 3 (D + 1) none Q) (hD : 0 ≤ D) {v1 : Int32} {μ : m2M} (k : ((μ.1 kM 0) ≤ v1 → Q none μ) ∧ (¬ (μ.1 kM 0) ≤ v1 → (vp_in v1 20) ∧ (κ 144 [.ref kM, .int (v1 + 1), .null] [] (m2_si μ kM_onTheirWay (v1).toNatClampNeg (fJ6_bitCount_0f7a4 (μ.1 kM_isOnWay (v1).toNatClampNeg)))))) : κ 144 [.ref kM, .int v1, .null] [] μ := by
  have hB := h.b
  refine m2_iload_n hB dX12_findTheirWays_144 rfl ?_
  refine m2_aload_n hB dX12_findTheirWays_145 rfl ?_
  refine m2_getI hB dX12_findTheirWays_146 fl_X12_153 sh_kM rfl ?_
  refine m2_icmp_ge hB dX12_findTheirWays_149 (tgt := 173) (by decide) (fun q2 : (μ.1 kM 0) ≤ v1 => ?_) (fun q2 : ¬ (μ.1 kM 0) ≤ v1 => ?_)
  · replace k := k.1 q2
    exact m2_vret h dX12_findTheirWays_173 k
  · replace k := k.2 q2
    refine m2_aload_n hB dX12_findTheirWays_152 rfl ?_
    refine m2_getR hB dX12_findTheirWays_153 fl_X12_71 sh_kM (c1 := kM_onTheirWay) rfl ?_
    refine m2_iload_n hB dX12_findTheirWays_156 rfl ?_
    refine m2_aload_n hB dX12_findTheirWays_157 rfl ?_
    refine m2_getR hB dX12_findTheirWays_158 fl_X12_74 sh_kM (c1 := kM_isOnWay) rfl ?_
    refine m2_iload_n hB dX12_findTheirWays_161 rfl ?_
    obtain ⟨hi3, k⟩ := k
    refine m2_iald hB dX12_findTheirWays_162 sh_kM_isOnWay hi3 ?_
    refine m2_invSi hB (as := [.int (μ.1 kM_isOnWay (v1).toNatClampNeg)]) dX12_findTheirWays_163 ms_X12_251 rfl (Nat.le_of_ble_eq_true rfl) rfl (P_J6_bitCount_0f7a4 (by omega) ((μ.1 kM_isOnWay (v1).toNatClampNeg)) _ ) (fun y4 μ5 hq6 => ?_)
    obtain ⟨⟨⟩, hq6⟩ := hq6
    subst μ5
    have hi7 := hi3
    refine m2_iast hB dX12_findTheirWays_166 sh_kM_onTheirWay hi7 ?_
    refine m2_iinc hB (ls' := [.ref kM, .int (v1 + 1), .null]) (v := (v1 + 1)) dX12_findTheirWays_167 rfl (by decide) rfl rfl ?_
    refine m2_goto hB dX12_findTheirWays_170 (tgt := 144) (by decide) ?_
    exact k
theorem dX12_priceOf_0 : decode cX12_priceOf 0 = .ok (.aload_n 0, 1) := by decide +kernel
theorem dX12_priceOf_1 : decode cX12_priceOf 1 = .ok (.getfield 238, 3) := by decide +kernel
theorem dX12_priceOf_4 : decode cX12_priceOf 4 = .ok (.ifCond .ne 5, 3) := by decide +kernel
theorem dX12_priceOf_7 : decode cX12_priceOf 7 = .ok (.iconst 1, 1) := by decide +kernel
theorem dX12_priceOf_8 : decode cX12_priceOf 8 = .ok (.ireturn, 1) := by decide +kernel
theorem dX12_priceOf_9 : decode cX12_priceOf 9 = .ok (.aload_n 0, 1) := by decide +kernel
theorem dX12_priceOf_10 : decode cX12_priceOf 10 = .ok (.aload_n 0, 1) := by decide +kernel
theorem dX12_priceOf_11 : decode cX12_priceOf 11 = .ok (.getfield 65, 3) := by decide +kernel
theorem dX12_priceOf_14 : decode cX12_priceOf 14 = .ok (.aload_n 0, 1) := by decide +kernel
theorem dX12_priceOf_15 : decode cX12_priceOf 15 = .ok (.getfield 238, 3) := by decide +kernel
theorem dX12_priceOf_18 : decode cX12_priceOf 18 = .ok (.bipush 40, 2) := by decide +kernel
theorem dX12_priceOf_20 : decode cX12_priceOf 20 = .ok (.invokevirtual 193, 3) := by decide +kernel
theorem dX12_priceOf_23 : decode cX12_priceOf 23 = .ok (.aload_n 0, 1) := by decide +kernel
theorem dX12_priceOf_24 : decode cX12_priceOf 24 = .ok (.iload_n 2, 1) := by decide +kernel
theorem dX12_priceOf_25 : decode cX12_priceOf 25 = .ok (.putfield 68, 3) := by decide +kernel
theorem dX12_priceOf_28 : decode cX12_priceOf 28 = .ok (.aload_n 0, 1) := by decide +kernel
theorem dX12_priceOf_29 : decode cX12_priceOf 29 = .ok (.iload_n 1, 1) := by decide +kernel
theorem dX12_priceOf_30 : decode cX12_priceOf 30 = .ok (.putfield 231, 3) := by decide +kernel
theorem dX12_priceOf_33 : decode cX12_priceOf 33 = .ok (.aload_n 0, 1) := by decide +kernel
theorem dX12_priceOf_34 : decode cX12_priceOf 34 = .ok (.iconst 0, 1) := by decide +kernel
theorem dX12_priceOf_35 : decode cX12_priceOf 35 = .ok (.invokevirtual 225, 3) := by decide +kernel
theorem dX12_priceOf_38 : decode cX12_priceOf 38 = .ok (.istore_n 3, 1) := by decide +kernel
theorem dX12_priceOf_39 : decode cX12_priceOf 39 = .ok (.iconst 1, 1) := by decide +kernel
theorem dX12_priceOf_40 : decode cX12_priceOf 40 = .ok (.sipush 9999, 3) := by decide +kernel
theorem dX12_priceOf_43 : decode cX12_priceOf 43 = .ok (.iload_n 3, 1) := by decide +kernel
theorem dX12_priceOf_44 : decode cX12_priceOf 44 = .ok (.invokestatic 256, 3) := by decide +kernel
theorem dX12_priceOf_47 : decode cX12_priceOf 47 = .ok (.invokestatic 261, 3) := by decide +kernel
theorem dX12_priceOf_50 : decode cX12_priceOf 50 = .ok (.ireturn, 1) := by decide +kernel
set_option maxRecDepth 100000 in
set_option maxHeartbeats 4000000 in
theorem B_X12_priceOf_0 {κ : Nat → List Value → List Value → m2M → Prop} {D : Nat} {Q : Option Value → m2M → Prop} (h : m2_RL κ cX12_priceOf RX12 4 (D + 1) (some .int) Q) (hD : 0 ≤ D) {x1 : Int32} {x2 : Int32} {μ : m2M} (k : (¬ (μ.1 kM 29) = 0 → ∃ Q4 : Option Value → m2M → Prop, m2_MT D yX12_begin cX12_begin 4 none [.ref kM, .ref kM_price, .int (μ.1 kM 29), .int 40] μ Q4 ∧ ∀ (μ3 : m2M), Q4 none μ3 → (∃ Q9 : Option Value → m2M → Prop, m2_MT D yX12_held cX12_held 3 (some .int) [.ref kM, .int 0] (m2_si (m2_si μ3 kM 30 x2) kM 31 x1) Q9 ∧ ∀ (y7 : Int32) (μ8 : m2M), Q9 (some (.int y7)) μ8 → (Q (some (.int (m2_max 1 (m2_min 9999 y7)))) μ8))) ∧ ((μ.1 kM 29) = 0 → Q (some (.int 1)) μ)) : κ 0 [.ref kM, .int x1, .int x2, .null] [] μ := by
  have hB := h.b
  refine m2_aload_n hB dX12_priceOf_0 rfl ?_
  refine m2_getI hB dX12_priceOf_1 fl_X12_238 sh_kM rfl ?_
  refine m2_if_ne hB dX12_priceOf_4 (tgt := 9) (by decide) (fun q1 : ¬ (μ.1 kM 29) = 0 => ?_) (fun q1 : (μ.1 kM 29) = 0 => ?_)
  · replace k := k.1 q1
    refine m2_aload_n hB dX12_priceOf_9 rfl ?_
    refine m2_aload_n hB dX12_priceOf_10 rfl ?_
    refine m2_getR hB dX12_priceOf_11 fl_X12_65 sh_kM (c1 := kM_price) rfl ?_
    refine m2_aload_n hB dX12_priceOf_14 rfl ?_
    refine m2_getI hB dX12_priceOf_15 fl_X12_238 sh_kM rfl ?_
    refine m2_bipush hB dX12_priceOf_18 (v := 40) (by decide) ?_
    obtain ⟨Q4, hM5, k⟩ := k
    refine m2_invv hB (as := [.ref kM_price, .int (μ.1 kM 29), .int 40]) dX12_priceOf_20 mv_X12_193 rfl sh_kM rfl (Nat.le_of_ble_eq_true rfl) rfl hM5 (fun μ3 hq6 => ?_)
    replace k := k μ3 hq6
    refine m2_aload_n hB dX12_priceOf_23 rfl ?_
    refine m2_iload_n hB dX12_priceOf_24 rfl ?_
    refine m2_putI hB dX12_priceOf_25 fl_X12_68 sh_kM rfl ?_
    refine m2_aload_n hB dX12_priceOf_28 rfl ?_
    refine m2_iload_n hB dX12_priceOf_29 rfl ?_
    refine m2_putI hB dX12_priceOf_30 fl_X12_231 sh_kM rfl ?_
    refine m2_aload_n hB dX12_priceOf_33 rfl ?_
    refine m2_iconst hB dX12_priceOf_34 (v := 0) (by decide) ?_
    obtain ⟨Q9, hM10, k⟩ := k
    refine m2_invi hB (as := [.int 0]) dX12_priceOf_35 mv_X12_225 rfl sh_kM rfl (Nat.le_of_ble_eq_true rfl) rfl hM10 (fun y7 μ8 hq11 => ?_)
    replace k := k y7 μ8 hq11
    refine m2_istore_n hB (ls' := [.ref kM, .int x1, .int x2, .int y7]) dX12_priceOf_38 rfl (by decide) rfl ?_
    refine m2_iconst hB dX12_priceOf_39 (v := 1) (by decide) ?_
    refine m2_sipush hB dX12_priceOf_40 (v := 9999) (by decide) ?_
    refine m2_iload_n hB dX12_priceOf_43 rfl ?_
    refine m2_mmin hB dX12_priceOf_44 ms_X12_256 (Nat.le_of_ble_eq_true rfl) ?_
    refine m2_mmax hB dX12_priceOf_47 ms_X12_261 (Nat.le_of_ble_eq_true rfl) ?_
    exact m2_iret h dX12_priceOf_50 k
  · replace k := k.2 q1
    refine m2_iconst hB dX12_priceOf_7 (v := 1) (by decide) ?_
    exact m2_iret h dX12_priceOf_8 k
theorem dX12_findWay_0 : decode cX12_findWay 0 = .ok (.iconst 0, 1) := by decide +kernel
theorem dX12_findWay_1 : decode cX12_findWay 1 = .ok (.istore_n 3, 1) := by decide +kernel
theorem dX12_findWay_2 : decode cX12_findWay 2 = .ok (.iload_n 3, 1) := by decide +kernel
theorem dX12_findWay_3 : decode cX12_findWay 3 = .ok (.bipush 12, 2) := by decide +kernel
theorem dX12_findWay_5 : decode cX12_findWay 5 = .ok (.if_icmp .ge 27, 3) := by decide +kernel
theorem dX12_findWay_8 : decode cX12_findWay 8 = .ok (.aload_n 0, 1) := by decide +kernel
theorem dX12_findWay_9 : decode cX12_findWay 9 = .ok (.getfield 80, 3) := by decide +kernel
theorem dX12_findWay_12 : decode cX12_findWay 12 = .ok (.iload_n 3, 1) := by decide +kernel
theorem dX12_findWay_13 : decode cX12_findWay 13 = .ok (.iload_n 3, 1) := by decide +kernel
theorem dX12_findWay_14 : decode cX12_findWay 14 = .ok (.iload_n 2, 1) := by decide +kernel
theorem dX12_findWay_15 : decode cX12_findWay 15 = .ok (.if_icmp .ne 7, 3) := by decide +kernel
theorem dX12_findWay_18 : decode cX12_findWay 18 = .ok (.lconst 0, 1) := by decide +kernel
theorem dX12_findWay_19 : decode cX12_findWay 19 = .ok (.goto 6, 3) := by decide +kernel
theorem dX12_findWay_22 : decode cX12_findWay 22 = .ok (.ldc2_w 266, 3) := by decide +kernel
theorem dX12_findWay_25 : decode cX12_findWay 25 = .ok (.lastore, 1) := by decide +kernel
theorem dX12_findWay_26 : decode cX12_findWay 26 = .ok (.iinc 3 1, 3) := by decide +kernel
theorem dX12_findWay_29 : decode cX12_findWay 29 = .ok (.goto (-27), 3) := by decide +kernel
theorem dX12_findWay_32 : decode cX12_findWay 32 = .ok (.iconst 0, 1) := by decide +kernel
theorem dX12_findWay_33 : decode cX12_findWay 33 = .ok (.istore_n 3, 1) := by decide +kernel
theorem dX12_findWay_34 : decode cX12_findWay 34 = .ok (.iload_n 3, 1) := by decide +kernel
theorem dX12_findWay_35 : decode cX12_findWay 35 = .ok (.bipush 12, 2) := by decide +kernel
theorem dX12_findWay_37 : decode cX12_findWay 37 = .ok (.if_icmp .ge 140, 3) := by decide +kernel
theorem dX12_findWay_40 : decode cX12_findWay 40 = .ok (.iconst 0, 1) := by decide +kernel
theorem dX12_findWay_41 : decode cX12_findWay 41 = .ok (.istore 4, 2) := by decide +kernel
theorem dX12_findWay_43 : decode cX12_findWay 43 = .ok (.iload 4, 2) := by decide +kernel
theorem dX12_findWay_45 : decode cX12_findWay 45 = .ok (.aload_n 0, 1) := by decide +kernel
theorem dX12_findWay_46 : decode cX12_findWay 46 = .ok (.getfield 153, 3) := by decide +kernel
theorem dX12_findWay_49 : decode cX12_findWay 49 = .ok (.if_icmp .ge 122, 3) := by decide +kernel
theorem dX12_findWay_52 : decode cX12_findWay 52 = .ok (.aload_n 0, 1) := by decide +kernel
theorem dX12_findWay_53 : decode cX12_findWay 53 = .ok (.getfield 77, 3) := by decide +kernel
theorem dX12_findWay_56 : decode cX12_findWay 56 = .ok (.iload 4, 2) := by decide +kernel
theorem dX12_findWay_58 : decode cX12_findWay 58 = .ok (.iaload, 1) := by decide +kernel
theorem dX12_findWay_59 : decode cX12_findWay 59 = .ok (.ldc 244, 2) := by decide +kernel
theorem dX12_findWay_61 : decode cX12_findWay 61 = .ok (.if_icmp .ne 6, 3) := by decide +kernel
theorem dX12_findWay_64 : decode cX12_findWay 64 = .ok (.goto 101, 3) := by decide +kernel
theorem dX12_findWay_67 : decode cX12_findWay 67 = .ok (.aload_n 0, 1) := by decide +kernel
theorem dX12_findWay_68 : decode cX12_findWay 68 = .ok (.getfield 9, 3) := by decide +kernel
theorem dX12_findWay_71 : decode cX12_findWay 71 = .ok (.iload 4, 2) := by decide +kernel
theorem dX12_findWay_73 : decode cX12_findWay 73 = .ok (.iaload, 1) := by decide +kernel
theorem dX12_findWay_74 : decode cX12_findWay 74 = .ok (.istore 5, 2) := by decide +kernel
theorem dX12_findWay_76 : decode cX12_findWay 76 = .ok (.aload_n 0, 1) := by decide +kernel
theorem dX12_findWay_77 : decode cX12_findWay 77 = .ok (.getfield 13, 3) := by decide +kernel
theorem dX12_findWay_80 : decode cX12_findWay 80 = .ok (.iload 4, 2) := by decide +kernel
theorem dX12_findWay_82 : decode cX12_findWay 82 = .ok (.iaload, 1) := by decide +kernel
theorem dX12_findWay_83 : decode cX12_findWay 83 = .ok (.istore 6, 2) := by decide +kernel
theorem dX12_findWay_85 : decode cX12_findWay 85 = .ok (.aload_n 0, 1) := by decide +kernel
theorem dX12_findWay_86 : decode cX12_findWay 86 = .ok (.getfield 80, 3) := by decide +kernel
theorem dX12_findWay_89 : decode cX12_findWay 89 = .ok (.iload 5, 2) := by decide +kernel
theorem dX12_findWay_91 : decode cX12_findWay 91 = .ok (.aload_n 0, 1) := by decide +kernel
theorem dX12_findWay_92 : decode cX12_findWay 92 = .ok (.getfield 80, 3) := by decide +kernel
theorem dX12_findWay_95 : decode cX12_findWay 95 = .ok (.iload 5, 2) := by decide +kernel
theorem dX12_findWay_97 : decode cX12_findWay 97 = .ok (.laload, 1) := by decide +kernel
theorem dX12_findWay_98 : decode cX12_findWay 98 = .ok (.aload_n 0, 1) := by decide +kernel
theorem dX12_findWay_99 : decode cX12_findWay 99 = .ok (.getfield 80, 3) := by decide +kernel
theorem dX12_findWay_102 : decode cX12_findWay 102 = .ok (.iload 6, 2) := by decide +kernel
theorem dX12_findWay_104 : decode cX12_findWay 104 = .ok (.laload, 1) := by decide +kernel
theorem dX12_findWay_105 : decode cX12_findWay 105 = .ok (.aload_n 0, 1) := by decide +kernel
theorem dX12_findWay_106 : decode cX12_findWay 106 = .ok (.getfield 77, 3) := by decide +kernel
theorem dX12_findWay_109 : decode cX12_findWay 109 = .ok (.iload 4, 2) := by decide +kernel
theorem dX12_findWay_111 : decode cX12_findWay 111 = .ok (.iaload, 1) := by decide +kernel
theorem dX12_findWay_112 : decode cX12_findWay 112 = .ok (.invokestatic 268, 3) := by decide +kernel
theorem dX12_findWay_115 : decode cX12_findWay 115 = .ok (.ladd, 1) := by decide +kernel
theorem dX12_findWay_116 : decode cX12_findWay 116 = .ok (.invokestatic 272, 3) := by decide +kernel
theorem dX12_findWay_119 : decode cX12_findWay 119 = .ok (.lastore, 1) := by decide +kernel
theorem dX12_findWay_120 : decode cX12_findWay 120 = .ok (.aload_n 0, 1) := by decide +kernel
theorem dX12_findWay_121 : decode cX12_findWay 121 = .ok (.getfield 16, 3) := by decide +kernel
theorem dX12_findWay_124 : decode cX12_findWay 124 = .ok (.iload 4, 2) := by decide +kernel
theorem dX12_findWay_126 : decode cX12_findWay 126 = .ok (.baload, 1) := by decide +kernel
theorem dX12_findWay_127 : decode cX12_findWay 127 = .ok (.ifCond .ne 38, 3) := by decide +kernel
theorem dX12_findWay_130 : decode cX12_findWay 130 = .ok (.aload_n 0, 1) := by decide +kernel
theorem dX12_findWay_131 : decode cX12_findWay 131 = .ok (.getfield 80, 3) := by decide +kernel
theorem dX12_findWay_134 : decode cX12_findWay 134 = .ok (.iload 6, 2) := by decide +kernel
theorem dX12_findWay_136 : decode cX12_findWay 136 = .ok (.aload_n 0, 1) := by decide +kernel
theorem dX12_findWay_137 : decode cX12_findWay 137 = .ok (.getfield 80, 3) := by decide +kernel
theorem dX12_findWay_140 : decode cX12_findWay 140 = .ok (.iload 6, 2) := by decide +kernel
theorem dX12_findWay_142 : decode cX12_findWay 142 = .ok (.laload, 1) := by decide +kernel
theorem dX12_findWay_143 : decode cX12_findWay 143 = .ok (.aload_n 0, 1) := by decide +kernel
theorem dX12_findWay_144 : decode cX12_findWay 144 = .ok (.getfield 80, 3) := by decide +kernel
theorem dX12_findWay_147 : decode cX12_findWay 147 = .ok (.iload 5, 2) := by decide +kernel
theorem dX12_findWay_149 : decode cX12_findWay 149 = .ok (.laload, 1) := by decide +kernel
theorem dX12_findWay_150 : decode cX12_findWay 150 = .ok (.aload_n 0, 1) := by decide +kernel
theorem dX12_findWay_151 : decode cX12_findWay 151 = .ok (.getfield 77, 3) := by decide +kernel
theorem dX12_findWay_154 : decode cX12_findWay 154 = .ok (.iload 4, 2) := by decide +kernel
theorem dX12_findWay_156 : decode cX12_findWay 156 = .ok (.iaload, 1) := by decide +kernel
theorem dX12_findWay_157 : decode cX12_findWay 157 = .ok (.invokestatic 268, 3) := by decide +kernel
theorem dX12_findWay_160 : decode cX12_findWay 160 = .ok (.ladd, 1) := by decide +kernel
theorem dX12_findWay_161 : decode cX12_findWay 161 = .ok (.invokestatic 272, 3) := by decide +kernel
theorem dX12_findWay_164 : decode cX12_findWay 164 = .ok (.lastore, 1) := by decide +kernel
theorem dX12_findWay_165 : decode cX12_findWay 165 = .ok (.iinc 4 1, 3) := by decide +kernel
theorem dX12_findWay_168 : decode cX12_findWay 168 = .ok (.goto (-125), 3) := by decide +kernel
theorem dX12_findWay_171 : decode cX12_findWay 171 = .ok (.iinc 3 1, 3) := by decide +kernel
theorem dX12_findWay_174 : decode cX12_findWay 174 = .ok (.goto (-140), 3) := by decide +kernel
theorem dX12_findWay_177 : decode cX12_findWay 177 = .ok (.aload_n 0, 1) := by decide +kernel
theorem dX12_findWay_178 : decode cX12_findWay 178 = .ok (.iconst 0, 1) := by decide +kernel
theorem dX12_findWay_179 : decode cX12_findWay 179 = .ok (.putfield 248, 3) := by decide +kernel
theorem dX12_findWay_182 : decode cX12_findWay 182 = .ok (.aload_n 0, 1) := by decide +kernel
theorem dX12_findWay_183 : decode cX12_findWay 183 = .ok (.getfield 80, 3) := by decide +kernel
theorem dX12_findWay_186 : decode cX12_findWay 186 = .ok (.iload_n 1, 1) := by decide +kernel
theorem dX12_findWay_187 : decode cX12_findWay 187 = .ok (.laload, 1) := by decide +kernel
theorem dX12_findWay_188 : decode cX12_findWay 188 = .ok (.ldc2_w 266, 3) := by decide +kernel
theorem dX12_findWay_191 : decode cX12_findWay 191 = .ok (.lcmp, 1) := by decide +kernel
theorem dX12_findWay_192 : decode cX12_findWay 192 = .ok (.ifCond .lt 5, 3) := by decide +kernel
theorem dX12_findWay_195 : decode cX12_findWay 195 = .ok (.iconst 0, 1) := by decide +kernel
theorem dX12_findWay_196 : decode cX12_findWay 196 = .ok (.ireturn, 1) := by decide +kernel
theorem dX12_findWay_197 : decode cX12_findWay 197 = .ok (.iload_n 1, 1) := by decide +kernel
theorem dX12_findWay_198 : decode cX12_findWay 198 = .ok (.istore_n 3, 1) := by decide +kernel
theorem dX12_findWay_199 : decode cX12_findWay 199 = .ok (.iload_n 3, 1) := by decide +kernel
theorem dX12_findWay_200 : decode cX12_findWay 200 = .ok (.iload_n 2, 1) := by decide +kernel
theorem dX12_findWay_201 : decode cX12_findWay 201 = .ok (.if_icmp .eq 100, 3) := by decide +kernel
theorem dX12_findWay_204 : decode cX12_findWay 204 = .ok (.iconst 0, 1) := by decide +kernel
theorem dX12_findWay_205 : decode cX12_findWay 205 = .ok (.istore 4, 2) := by decide +kernel
theorem dX12_findWay_207 : decode cX12_findWay 207 = .ok (.aload_n 0, 1) := by decide +kernel
theorem dX12_findWay_208 : decode cX12_findWay 208 = .ok (.getfield 77, 3) := by decide +kernel
theorem dX12_findWay_211 : decode cX12_findWay 211 = .ok (.iload 4, 2) := by decide +kernel
theorem dX12_findWay_213 : decode cX12_findWay 213 = .ok (.iaload, 1) := by decide +kernel
theorem dX12_findWay_214 : decode cX12_findWay 214 = .ok (.ldc 244, 2) := by decide +kernel
theorem dX12_findWay_216 : decode cX12_findWay 216 = .ok (.if_icmp .eq 47, 3) := by decide +kernel
theorem dX12_findWay_219 : decode cX12_findWay 219 = .ok (.aload_n 0, 1) := by decide +kernel
theorem dX12_findWay_220 : decode cX12_findWay 220 = .ok (.iload 4, 2) := by decide +kernel
theorem dX12_findWay_222 : decode cX12_findWay 222 = .ok (.iload_n 3, 1) := by decide +kernel
theorem dX12_findWay_223 : decode cX12_findWay 223 = .ok (.invokevirtual 275, 3) := by decide +kernel
theorem dX12_findWay_226 : decode cX12_findWay 226 = .ok (.iconst (-1), 1) := by decide +kernel
theorem dX12_findWay_227 : decode cX12_findWay 227 = .ok (.if_icmp .eq 36, 3) := by decide +kernel
theorem dX12_findWay_230 : decode cX12_findWay 230 = .ok (.aload_n 0, 1) := by decide +kernel
theorem dX12_findWay_231 : decode cX12_findWay 231 = .ok (.getfield 80, 3) := by decide +kernel
theorem dX12_findWay_234 : decode cX12_findWay 234 = .ok (.aload_n 0, 1) := by decide +kernel
theorem dX12_findWay_235 : decode cX12_findWay 235 = .ok (.iload 4, 2) := by decide +kernel
theorem dX12_findWay_237 : decode cX12_findWay 237 = .ok (.iload_n 3, 1) := by decide +kernel
theorem dX12_findWay_238 : decode cX12_findWay 238 = .ok (.invokevirtual 275, 3) := by decide +kernel
theorem dX12_findWay_241 : decode cX12_findWay 241 = .ok (.laload, 1) := by decide +kernel
theorem dX12_findWay_242 : decode cX12_findWay 242 = .ok (.aload_n 0, 1) := by decide +kernel
theorem dX12_findWay_243 : decode cX12_findWay 243 = .ok (.getfield 77, 3) := by decide +kernel
theorem dX12_findWay_246 : decode cX12_findWay 246 = .ok (.iload 4, 2) := by decide +kernel
theorem dX12_findWay_248 : decode cX12_findWay 248 = .ok (.iaload, 1) := by decide +kernel
theorem dX12_findWay_249 : decode cX12_findWay 249 = .ok (.invokestatic 268, 3) := by decide +kernel
theorem dX12_findWay_252 : decode cX12_findWay 252 = .ok (.ladd, 1) := by decide +kernel
theorem dX12_findWay_253 : decode cX12_findWay 253 = .ok (.aload_n 0, 1) := by decide +kernel
theorem dX12_findWay_254 : decode cX12_findWay 254 = .ok (.getfield 80, 3) := by decide +kernel
theorem dX12_findWay_257 : decode cX12_findWay 257 = .ok (.iload_n 3, 1) := by decide +kernel
theorem dX12_findWay_258 : decode cX12_findWay 258 = .ok (.laload, 1) := by decide +kernel
theorem dX12_findWay_259 : decode cX12_findWay 259 = .ok (.lcmp, 1) := by decide +kernel
theorem dX12_findWay_260 : decode cX12_findWay 260 = .ok (.ifCond .eq 9, 3) := by decide +kernel
theorem dX12_findWay_263 : decode cX12_findWay 263 = .ok (.iinc 4 1, 3) := by decide +kernel
theorem dX12_findWay_266 : decode cX12_findWay 266 = .ok (.goto (-59), 3) := by decide +kernel
theorem dX12_findWay_269 : decode cX12_findWay 269 = .ok (.aload_n 0, 1) := by decide +kernel
theorem dX12_findWay_270 : decode cX12_findWay 270 = .ok (.getfield 83, 3) := by decide +kernel
theorem dX12_findWay_273 : decode cX12_findWay 273 = .ok (.aload_n 0, 1) := by decide +kernel
theorem dX12_findWay_274 : decode cX12_findWay 274 = .ok (.getfield 248, 3) := by decide +kernel
theorem dX12_findWay_277 : decode cX12_findWay 277 = .ok (.iload 4, 2) := by decide +kernel
theorem dX12_findWay_279 : decode cX12_findWay 279 = .ok (.iastore, 1) := by decide +kernel
theorem dX12_findWay_280 : decode cX12_findWay 280 = .ok (.aload_n 0, 1) := by decide +kernel
theorem dX12_findWay_281 : decode cX12_findWay 281 = .ok (.dup, 1) := by decide +kernel
theorem dX12_findWay_282 : decode cX12_findWay 282 = .ok (.getfield 248, 3) := by decide +kernel
theorem dX12_findWay_285 : decode cX12_findWay 285 = .ok (.iconst 1, 1) := by decide +kernel
theorem dX12_findWay_286 : decode cX12_findWay 286 = .ok (.iadd, 1) := by decide +kernel
theorem dX12_findWay_287 : decode cX12_findWay 287 = .ok (.putfield 248, 3) := by decide +kernel
theorem dX12_findWay_290 : decode cX12_findWay 290 = .ok (.aload_n 0, 1) := by decide +kernel
theorem dX12_findWay_291 : decode cX12_findWay 291 = .ok (.iload 4, 2) := by decide +kernel
theorem dX12_findWay_293 : decode cX12_findWay 293 = .ok (.iload_n 3, 1) := by decide +kernel
theorem dX12_findWay_294 : decode cX12_findWay 294 = .ok (.invokevirtual 275, 3) := by decide +kernel
theorem dX12_findWay_297 : decode cX12_findWay 297 = .ok (.istore_n 3, 1) := by decide +kernel
theorem dX12_findWay_298 : decode cX12_findWay 298 = .ok (.goto (-99), 3) := by decide +kernel
theorem dX12_findWay_301 : decode cX12_findWay 301 = .ok (.iconst 1, 1) := by decide +kernel
theorem dX12_findWay_302 : decode cX12_findWay 302 = .ok (.ireturn, 1) := by decide +kernel
set_option maxRecDepth 100000 in
set_option maxHeartbeats 4000000 in
theorem B_X12_findWay_0 {κ : Nat → List Value → List Value → m2M → Prop} {D : Nat} {Q : Option Value → m2M → Prop} (h : m2_RL κ cX12_findWay RX12 7 D (some .boolean) Q) {x1 : Int32} {x2 : Int32} {μ : m2M} (k : κ 2 [.ref kM, .int x1, .int x2, .int 0, .null, .null, .null] [] μ) : κ 0 [.ref kM, .int x1, .int x2, .null, .null, .null, .null] [] μ := by
  have hB := h.b
  refine m2_iconst hB dX12_findWay_0 (v := 0) (by decide) ?_
  refine m2_istore_n hB (ls' := [.ref kM, .int x1, .int x2, .int 0, .null, .null, .null]) dX12_findWay_1 rfl (by decide) rfl ?_
  exact k
set_option maxRecDepth 100000 in
set_option maxHeartbeats 4000000 in
theorem B_X12_findWay_2 {κ : Nat → List Value → List Value → m2M → Prop} {D : Nat} {Q : Option Value → m2M → Prop} (h : m2_RL κ cX12_findWay RX12 7 D (some .boolean) Q) {v1 : Int32} {v2 : Int32} {v3 : Int32} {μ : m2M} (k : (12 ≤ v3 → κ 34 [.ref kM, .int v1, .int v2, .int 0, .null, .null, .null] [] μ) ∧ (¬ 12 ≤ v3 → (¬ v3 = v2 → (vp_in v3 12) ∧ (κ 2 [.ref kM, .int v1, .int v2, .int (v3 + 1), .null, .null, .null] [] (m2_sl μ kM_far (vp_updL ((μ).2 kM_far) (v3).toNatClampNeg 1125899906842624)))) ∧ (v3 = v2 → (vp_in v3 12) ∧ (κ 2 [.ref kM, .int v1, .int v2, .int (v3 + 1), .null, .null, .null] [] (m2_sl μ kM_far (vp_updL ((μ).2 kM_far) (v3).toNatClampNeg 0)))))) : κ 2 [.ref kM, .int v1, .int v2, .int v3, .null, .null, .null] [] μ := by
  have hB := h.b
  refine m2_iload_n hB dX12_findWay_2 rfl ?_
  refine m2_bipush hB dX12_findWay_3 (v := 12) (by decide) ?_
  refine m2_icmp_ge hB dX12_findWay_5 (tgt := 32) (by decide) (fun q1 : 12 ≤ v3 => ?_) (fun q1 : ¬ 12 ≤ v3 => ?_)
  · replace k := k.1 q1
    refine m2_iconst hB dX12_findWay_32 (v := 0) (by decide) ?_
    refine m2_istore_n hB (ls' := [.ref kM, .int v1, .int v2, .int 0, .null, .null, .null]) dX12_findWay_33 rfl (by decide) rfl ?_
    exact k
  · replace k := k.2 q1
    refine m2_aload_n hB dX12_findWay_8 rfl ?_
    refine m2_getR hB dX12_findWay_9 fl_X12_80 sh_kM (c1 := kM_far) rfl ?_
    refine m2_iload_n hB dX12_findWay_12 rfl ?_
    refine m2_iload_n hB dX12_findWay_13 rfl ?_
    refine m2_iload_n hB dX12_findWay_14 rfl ?_
    refine m2_icmp_ne hB dX12_findWay_15 (tgt := 22) (by decide) (fun q2 : ¬ v3 = v2 => ?_) (fun q2 : v3 = v2 => ?_)
    · replace k := k.1 q2
      refine m2_ldc2 hB kl_X12_266 dX12_findWay_22 ?_
      obtain ⟨hi3, k⟩ := k
      refine m2_last hB dX12_findWay_25 sh_kM_far hi3 ?_
      refine m2_iinc hB (ls' := [.ref kM, .int v1, .int v2, .int (v3 + 1), .null, .null, .null]) (v := (v3 + 1)) dX12_findWay_26 rfl (by decide) rfl rfl ?_
      refine m2_goto hB dX12_findWay_29 (tgt := 2) (by decide) ?_
      exact k
    · replace k := k.2 q2
      refine m2_lconst hB dX12_findWay_18 (v := 0) (by decide) ?_
      refine m2_goto hB dX12_findWay_19 (tgt := 25) (by decide) ?_
      obtain ⟨hi4, k⟩ := k
      refine m2_last hB dX12_findWay_25 sh_kM_far hi4 ?_
      refine m2_iinc hB (ls' := [.ref kM, .int v1, .int v2, .int (v3 + 1), .null, .null, .null]) (v := (v3 + 1)) dX12_findWay_26 rfl (by decide) rfl rfl ?_
      refine m2_goto hB dX12_findWay_29 (tgt := 2) (by decide) ?_
      exact k
set_option maxRecDepth 100000 in
set_option maxHeartbeats 4000000 in
theorem B_X12_findWay_34 {κ : Nat → List Value → List Value → m2M → Prop} {D : Nat} {Q : Option Value → m2M → Prop} (h : m2_RL κ cX12_findWay RX12 7 D (some .boolean) Q) {v1 : Int32} {v2 : Int32} {v3 : Int32} {μ : m2M} (k : (12 ≤ v3 → (vp_in v1 12) ∧ (((lg_cmp ((μ).2 kM_far (v1).toNatClampNeg) 1125899906842624) < 0 → κ 199 [.ref kM, .int v1, .int v2, .int v1, .null, .null, .null] [] (m2_si μ kM 37 0)) ∧ (¬ (lg_cmp ((μ).2 kM_far (v1).toNatClampNeg) 1125899906842624) < 0 → Q (some (.int 0)) (m2_si μ kM 37 0)))) ∧ (¬ 12 ≤ v3 → κ 43 [.ref kM, .int v1, .int v2, .int v3, .int 0, .null, .null] [] μ)) : κ 34 [.ref kM, .int v1, .int v2, .int v3, .null, .null, .null] [] μ := by
  have hB := h.b
  refine m2_iload_n hB dX12_findWay_34 rfl ?_
  refine m2_bipush hB dX12_findWay_35 (v := 12) (by decide) ?_
  refine m2_icmp_ge hB dX12_findWay_37 (tgt := 177) (by decide) (fun q1 : 12 ≤ v3 => ?_) (fun q1 : ¬ 12 ≤ v3 => ?_)
  · replace k := k.1 q1
    refine m2_aload_n hB dX12_findWay_177 rfl ?_
    refine m2_iconst hB dX12_findWay_178 (v := 0) (by decide) ?_
    refine m2_putI hB dX12_findWay_179 fl_X12_248 sh_kM rfl ?_
    refine m2_aload_n hB dX12_findWay_182 rfl ?_
    refine m2_getR hB dX12_findWay_183 fl_X12_80 sh_kM (c1 := kM_far) rfl ?_
    refine m2_iload_n hB dX12_findWay_186 rfl ?_
    obtain ⟨hi2, k⟩ := k
    refine m2_lald hB dX12_findWay_187 sh_kM_far hi2 ?_
    refine m2_ldc2 hB kl_X12_266 dX12_findWay_188 ?_
    refine m2_lcmp hB dX12_findWay_191 ?_
    refine m2_if_lt hB dX12_findWay_192 (tgt := 197) (by decide) (fun q3 : (lg_cmp ((μ).2 kM_far (v1).toNatClampNeg) 1125899906842624) < 0 => ?_) (fun q3 : ¬ (lg_cmp ((μ).2 kM_far (v1).toNatClampNeg) 1125899906842624) < 0 => ?_)
    · replace k := k.1 q3
      refine m2_iload_n hB dX12_findWay_197 rfl ?_
      refine m2_istore_n hB (ls' := [.ref kM, .int v1, .int v2, .int v1, .null, .null, .null]) dX12_findWay_198 rfl (by decide) rfl ?_
      exact k
    · replace k := k.2 q3
      refine m2_iconst hB dX12_findWay_195 (v := 0) (by decide) ?_
      exact m2_zret h dX12_findWay_196 (Or.inl rfl) k
  · replace k := k.2 q1
    refine m2_iconst hB dX12_findWay_40 (v := 0) (by decide) ?_
    refine m2_istore hB (ls' := [.ref kM, .int v1, .int v2, .int v3, .int 0, .null, .null]) dX12_findWay_41 (by decide) rfl ?_
    exact k
set_option maxRecDepth 100000 in
set_option maxHeartbeats 4000000 in
theorem B_X12_findWay_43 {κ : Nat → List Value → List Value → m2M → Prop} {D : Nat} {Q : Option Value → m2M → Prop} (h : m2_RL κ cX12_findWay RX12 7 (D + 1) (some .boolean) Q) (hD : 0 ≤ D) {v1 : Int32} {v2 : Int32} {v3 : Int32} {v4 : Int32} {μ : m2M} (k : ((μ.1 kM 0) ≤ v4 → κ 34 [.ref kM, .int v1, .int v2, .int (v3 + 1), .null, .null, .null] [] μ) ∧ (¬ (μ.1 kM 0) ≤ v4 → (vp_in v4 20) ∧ ((¬ (μ.1 kM_cost (v4).toNatClampNeg) = 100000000 → (vp_in (μ.1 kM_doorA (v4).toNatClampNeg) 12) ∧ ((vp_in (μ.1 kM_doorB (v4).toNatClampNeg) 12) ∧ ((¬ (μ.1 kM_isOneWay (v4).toNatClampNeg) = 0 → κ 165 [.ref kM, .int v1, .int v2, .int v3, .int v4, .null, .null] [] (m2_sl μ kM_far (vp_updL ((μ).2 kM_far) ((μ.1 kM_doorA (v4).toNatClampNeg)).toNatClampNeg (m2_minl ((μ).2 kM_far ((μ.1 kM_doorA (v4).toNatClampNeg)).toNatClampNeg) (((μ).2 kM_far ((μ.1 kM_doorB (v4).toNatClampNeg)).toNatClampNeg) + (fX12_step (μ.1 kM_cost (v4).toNatClampNeg))))))) ∧ ((μ.1 kM_isOneWay (v4).toNatClampNeg) = 0 → κ 165 [.ref kM, .int v1, .int v2, .int v3, .int v4, .null, .null] [] (m2_sl (m2_sl μ kM_far (vp_updL ((μ).2 kM_far) ((μ.1 kM_doorA (v4).toNatClampNeg)).toNatClampNeg (m2_minl ((μ).2 kM_far ((μ.1 kM_doorA (v4).toNatClampNeg)).toNatClampNeg) (((μ).2 kM_far ((μ.1 kM_doorB (v4).toNatClampNeg)).toNatClampNeg) + (fX12_step (μ.1 kM_cost (v4).toNatClampNeg)))))) kM_far (vp_updL (((m2_sl μ kM_far (vp_updL ((μ).2 kM_far) ((μ.1 kM_doorA (v4).toNatClampNeg)).toNatClampNeg (m2_minl ((μ).2 kM_far ((μ.1 kM_doorA (v4).toNatClampNeg)).toNatClampNeg) (((μ).2 kM_far ((μ.1 kM_doorB (v4).toNatClampNeg)).toNatClampNeg) + (fX12_step (μ.1 kM_cost (v4).toNatClampNeg))))))).2 kM_far) ((μ.1 kM_doorB (v4).toNatClampNeg)).toNatClampNeg (m2_minl (((m2_sl μ kM_far (vp_updL ((μ).2 kM_far) ((μ.1 kM_doorA (v4).toNatClampNeg)).toNatClampNeg (m2_minl ((μ).2 kM_far ((μ.1 kM_doorA (v4).toNatClampNeg)).toNatClampNeg) (((μ).2 kM_far ((μ.1 kM_doorB (v4).toNatClampNeg)).toNatClampNeg) + (fX12_step (μ.1 kM_cost (v4).toNatClampNeg))))))).2 kM_far ((μ.1 kM_doorB (v4).toNatClampNeg)).toNatClampNeg) ((((m2_sl μ kM_far (vp_updL ((μ).2 kM_far) ((μ.1 kM_doorA (v4).toNatClampNeg)).toNatClampNeg (m2_minl ((μ).2 kM_far ((μ.1 kM_doorA (v4).toNatClampNeg)).toNatClampNeg) (((μ).2 kM_far ((μ.1 kM_doorB (v4).toNatClampNeg)).toNatClampNeg) + (fX12_step (μ.1 kM_cost (v4).toNatClampNeg))))))).2 kM_far ((μ.1 kM_doorA (v4).toNatClampNeg)).toNatClampNeg) + (fX12_step (μ.1 kM_cost (v4).toNatClampNeg)))))))))) ∧ ((μ.1 kM_cost (v4).toNatClampNeg) = 100000000 → κ 165 [.ref kM, .int v1, .int v2, .int v3, .int v4, .null, .null] [] μ)))) : κ 43 [.ref kM, .int v1, .int v2, .int v3, .int v4, .null, .null] [] μ := by
  have hB := h.b
  refine m2_iload hB dX12_findWay_43 rfl ?_
  refine m2_aload_n hB dX12_findWay_45 rfl ?_
  refine m2_getI hB dX12_findWay_46 fl_X12_153 sh_kM rfl ?_
  refine m2_icmp_ge hB dX12_findWay_49 (tgt := 171) (by decide) (fun q2 : (μ.1 kM 0) ≤ v4 => ?_) (fun q2 : ¬ (μ.1 kM 0) ≤ v4 => ?_)
  · replace k := k.1 q2
    refine m2_iinc hB (ls' := [.ref kM, .int v1, .int v2, .int (v3 + 1), .int v4, .null, .null]) (v := (v3 + 1)) dX12_findWay_171 rfl (by decide) rfl rfl ?_
    refine m2_goto hB dX12_findWay_174 (tgt := 34) (by decide) ?_
    exact m2_weak (ls' := [.ref kM, .int v1, .int v2, .int (v3 + 1), .null, .null, .null]) hB ⟨Or.inr rfl, Or.inr rfl, Or.inr rfl, Or.inr rfl, Or.inl rfl, Or.inl rfl, Or.inl rfl, trivial⟩ k
  · replace k := k.2 q2
    refine m2_aload_n hB dX12_findWay_52 rfl ?_
    refine m2_getR hB dX12_findWay_53 fl_X12_77 sh_kM (c1 := kM_cost) rfl ?_
    refine m2_iload hB dX12_findWay_56 rfl ?_
    obtain ⟨hi3, k⟩ := k
    refine m2_iald hB dX12_findWay_58 sh_kM_cost hi3 ?_
    refine m2_ldc hB kc_X12_244 dX12_findWay_59 ?_
    refine m2_icmp_ne hB dX12_findWay_61 (tgt := 67) (by decide) (fun q5 : ¬ (μ.1 kM_cost (v4).toNatClampNeg) = 100000000 => ?_) (fun q5 : (μ.1 kM_cost (v4).toNatClampNeg) = 100000000 => ?_)
    · replace k := k.1 q5
      refine m2_aload_n hB dX12_findWay_67 rfl ?_
      refine m2_getR hB dX12_findWay_68 fl_X12_9 sh_kM (c1 := kM_doorA) rfl ?_
      refine m2_iload hB dX12_findWay_71 rfl ?_
      have hi6 := hi3
      refine m2_iald hB dX12_findWay_73 sh_kM_doorA hi6 ?_
      refine m2_istore hB (ls' := [.ref kM, .int v1, .int v2, .int v3, .int v4, .int (μ.1 kM_doorA (v4).toNatClampNeg), .null]) dX12_findWay_74 (by decide) rfl ?_
      refine m2_aload_n hB dX12_findWay_76 rfl ?_
      refine m2_getR hB dX12_findWay_77 fl_X12_13 sh_kM (c1 := kM_doorB) rfl ?_
      refine m2_iload hB dX12_findWay_80 rfl ?_
      have hi7 := hi3
      refine m2_iald hB dX12_findWay_82 sh_kM_doorB hi7 ?_
      refine m2_istore hB (ls' := [.ref kM, .int v1, .int v2, .int v3, .int v4, .int (μ.1 kM_doorA (v4).toNatClampNeg), .int (μ.1 kM_doorB (v4).toNatClampNeg)]) dX12_findWay_83 (by decide) rfl ?_
      refine m2_aload_n hB dX12_findWay_85 rfl ?_
      refine m2_getR hB dX12_findWay_86 fl_X12_80 sh_kM (c1 := kM_far) rfl ?_
      refine m2_iload hB dX12_findWay_89 rfl ?_
      refine m2_aload_n hB dX12_findWay_91 rfl ?_
      refine m2_getR hB dX12_findWay_92 fl_X12_80 sh_kM (c1 := kM_far) rfl ?_
      refine m2_iload hB dX12_findWay_95 rfl ?_
      obtain ⟨hi8, k⟩ := k
      refine m2_lald hB dX12_findWay_97 sh_kM_far hi8 ?_
      refine m2_aload_n hB dX12_findWay_98 rfl ?_
      refine m2_getR hB dX12_findWay_99 fl_X12_80 sh_kM (c1 := kM_far) rfl ?_
      refine m2_iload hB dX12_findWay_102 rfl ?_
      obtain ⟨hi9, k⟩ := k
      refine m2_lald hB dX12_findWay_104 sh_kM_far hi9 ?_
      refine m2_aload_n hB dX12_findWay_105 rfl ?_
      refine m2_getR hB dX12_findWay_106 fl_X12_77 sh_kM (c1 := kM_cost) rfl ?_
      refine m2_iload hB dX12_findWay_109 rfl ?_
      have hi10 := hi3
      refine m2_iald hB dX12_findWay_111 sh_kM_cost hi10 ?_
      refine m2_invSl hB (as := [.int (μ.1 kM_cost (v4).toNatClampNeg)]) dX12_findWay_112 ms_X12_268 rfl (Nat.le_of_ble_eq_true rfl) rfl (P_X12_step (by omega) ((μ.1 kM_cost (v4).toNatClampNeg)) _ ) (fun y11 μ12 hq13 => ?_)
      obtain ⟨⟨⟩, hq13⟩ := hq13
      subst μ12
      refine m2_ladd hB dX12_findWay_115 ?_
      refine m2_mmin_long hB dX12_findWay_116 ms_X12_272 (Nat.le_of_ble_eq_true rfl) ?_
      have hi14 := hi8
      refine m2_last hB dX12_findWay_119 sh_kM_far hi14 ?_
      refine m2_aload_n hB dX12_findWay_120 rfl ?_
      refine m2_getR hB dX12_findWay_121 fl_X12_16 sh_kM (c1 := kM_isOneWay) rfl ?_
      refine m2_iload hB dX12_findWay_124 rfl ?_
      have hi15 := hi3
      refine m2_zald hB dX12_findWay_126 sh_kM_isOneWay hi15 ?_
      refine m2_if_ne hB dX12_findWay_127 (tgt := 165) (by decide) (fun q17 : ¬ (μ.1 kM_isOneWay (v4).toNatClampNeg) = 0 => ?_) (fun q17 : (μ.1 kM_isOneWay (v4).toNatClampNeg) = 0 => ?_)
      · replace k := k.1 q17
        exact m2_weak (ls' := [.ref kM, .int v1, .int v2, .int v3, .int v4, .null, .null]) hB ⟨Or.inr rfl, Or.inr rfl, Or.inr rfl, Or.inr rfl, Or.inr rfl, Or.inl rfl, Or.inl rfl, trivial⟩ k
      · replace k := k.2 q17
        refine m2_aload_n hB dX12_findWay_130 rfl ?_
        refine m2_getR hB dX12_findWay_131 fl_X12_80 sh_kM (c1 := kM_far) rfl ?_
        refine m2_iload hB dX12_findWay_134 rfl ?_
        refine m2_aload_n hB dX12_findWay_136 rfl ?_
        refine m2_getR hB dX12_findWay_137 fl_X12_80 sh_kM (c1 := kM_far) rfl ?_
        refine m2_iload hB dX12_findWay_140 rfl ?_
        have hi18 := hi9
        refine m2_lald hB dX12_findWay_142 sh_kM_far hi18 ?_
        refine m2_aload_n hB dX12_findWay_143 rfl ?_
        refine m2_getR hB dX12_findWay_144 fl_X12_80 sh_kM (c1 := kM_far) rfl ?_
        refine m2_iload hB dX12_findWay_147 rfl ?_
        have hi19 := hi8
        refine m2_lald hB dX12_findWay_149 sh_kM_far hi19 ?_
        refine m2_aload_n hB dX12_findWay_150 rfl ?_
        refine m2_getR hB dX12_findWay_151 fl_X12_77 sh_kM (c1 := kM_cost) rfl ?_
        refine m2_iload hB dX12_findWay_154 rfl ?_
        have hi20 := hi3
        refine m2_iald hB dX12_findWay_156 sh_kM_cost hi20 ?_
        refine m2_invSl hB (as := [.int (μ.1 kM_cost (v4).toNatClampNeg)]) dX12_findWay_157 ms_X12_268 rfl (Nat.le_of_ble_eq_true rfl) rfl (P_X12_step (by omega) ((μ.1 kM_cost (v4).toNatClampNeg)) _ ) (fun y21 μ22 hq23 => ?_)
        obtain ⟨⟨⟩, hq23⟩ := hq23
        subst μ22
        refine m2_ladd hB dX12_findWay_160 ?_
        refine m2_mmin_long hB dX12_findWay_161 ms_X12_272 (Nat.le_of_ble_eq_true rfl) ?_
        have hi24 := hi9
        refine m2_last hB dX12_findWay_164 sh_kM_far hi24 ?_
        exact m2_weak (ls' := [.ref kM, .int v1, .int v2, .int v3, .int v4, .null, .null]) hB ⟨Or.inr rfl, Or.inr rfl, Or.inr rfl, Or.inr rfl, Or.inr rfl, Or.inl rfl, Or.inl rfl, trivial⟩ k
    · replace k := k.2 q5
      refine m2_goto hB dX12_findWay_64 (tgt := 165) (by decide) ?_
      exact k
set_option maxRecDepth 100000 in
set_option maxHeartbeats 4000000 in
theorem B_X12_findWay_165 {κ : Nat → List Value → List Value → m2M → Prop} {D : Nat} {Q : Option Value → m2M → Prop} (h : m2_RL κ cX12_findWay RX12 7 D (some .boolean) Q) {v1 : Int32} {v2 : Int32} {v3 : Int32} {v4 : Int32} {μ : m2M} (k : κ 43 [.ref kM, .int v1, .int v2, .int v3, .int (v4 + 1), .null, .null] [] μ) : κ 165 [.ref kM, .int v1, .int v2, .int v3, .int v4, .null, .null] [] μ := by
  have hB := h.b
  refine m2_iinc hB (ls' := [.ref kM, .int v1, .int v2, .int v3, .int (v4 + 1), .null, .null]) (v := (v4 + 1)) dX12_findWay_165 rfl (by decide) rfl rfl ?_
  refine m2_goto hB dX12_findWay_168 (tgt := 43) (by decide) ?_
  exact k
set_option maxRecDepth 100000 in
set_option maxHeartbeats 4000000 in
theorem B_X12_findWay_199 {κ : Nat → List Value → List Value → m2M → Prop} {D : Nat} {Q : Option Value → m2M → Prop} (h : m2_RL κ cX12_findWay RX12 7 D (some .boolean) Q) {v1 : Int32} {v2 : Int32} {v3 : Int32} {μ : m2M} (k : (v3 = v2 → Q (some (.int 1)) μ) ∧ (¬ v3 = v2 → κ 207 [.ref kM, .int v1, .int v2, .int v3, .int 0, .null, .null] [] μ)) : κ 199 [.ref kM, .int v1, .int v2, .int v3, .null, .null, .null] [] μ := by
  have hB := h.b
  refine m2_iload_n hB dX12_findWay_199 rfl ?_
  refine m2_iload_n hB dX12_findWay_200 rfl ?_
  refine m2_icmp_eq hB dX12_findWay_201 (tgt := 301) (by decide) (fun q1 : v3 = v2 => ?_) (fun q1 : ¬ v3 = v2 => ?_)
  · replace k := k.1 q1
    refine m2_iconst hB dX12_findWay_301 (v := 1) (by decide) ?_
    exact m2_zret h dX12_findWay_302 (Or.inr rfl) k
  · replace k := k.2 q1
    refine m2_iconst hB dX12_findWay_204 (v := 0) (by decide) ?_
    refine m2_istore hB (ls' := [.ref kM, .int v1, .int v2, .int v3, .int 0, .null, .null]) dX12_findWay_205 (by decide) rfl ?_
    exact k
set_option maxRecDepth 100000 in
set_option maxHeartbeats 4000000 in
theorem B_X12_findWay_207 {κ : Nat → List Value → List Value → m2M → Prop} {D : Nat} {Q : Option Value → m2M → Prop} (h : m2_RL κ cX12_findWay RX12 7 (D + 1) (some .boolean) Q) (hD : 0 ≤ D) {v1 : Int32} {v2 : Int32} {v3 : Int32} {v4 : Int32} {μ : m2M} (k : (vp_in v4 20) ∧ (((μ.1 kM_cost (v4).toNatClampNeg) = 100000000 → κ 263 [.ref kM, .int v1, .int v2, .int v3, .int v4, .null, .null] [] μ) ∧ (¬ (μ.1 kM_cost (v4).toNatClampNeg) = 100000000 → ((fX12_beyond v4 v3 μ) = (-1) → κ 263 [.ref kM, .int v1, .int v2, .int v3, .int v4, .null, .null] [] μ) ∧ (¬ (fX12_beyond v4 v3 μ) = (-1) → (vp_in (fX12_beyond v4 v3 μ) 12) ∧ ((vp_in v3 12) ∧ (((lg_cmp (((μ).2 kM_far ((fX12_beyond v4 v3 μ)).toNatClampNeg) + (fX12_step (μ.1 kM_cost (v4).toNatClampNeg))) ((μ).2 kM_far (v3).toNatClampNeg)) = 0 → (vp_in (μ.1 kM 37) 12) ∧ (κ 199 [.ref kM, .int v1, .int v2, .int (fX12_beyond v4 v3 (m2_si (m2_si μ kM_way ((μ.1 kM 37)).toNatClampNeg v4) kM 37 ((μ.1 kM 37) + 1))), .null, .null, .null] [] (m2_si (m2_si μ kM_way ((μ.1 kM 37)).toNatClampNeg v4) kM 37 ((μ.1 kM 37) + 1)))) ∧ (¬ (lg_cmp (((μ).2 kM_far ((fX12_beyond v4 v3 μ)).toNatClampNeg) + (fX12_step (μ.1 kM_cost (v4).toNatClampNeg))) ((μ).2 kM_far (v3).toNatClampNeg)) = 0 → κ 263 [.ref kM, .int v1, .int v2, .int v3, .int v4, .null, .null] [] μ))))))) : κ 207 [.ref kM, .int v1, .int v2, .int v3, .int v4, .null, .null] [] μ := by
  have hB := h.b
  refine m2_aload_n hB dX12_findWay_207 rfl ?_
  refine m2_getR hB dX12_findWay_208 fl_X12_77 sh_kM (c1 := kM_cost) rfl ?_
  refine m2_iload hB dX12_findWay_211 rfl ?_
  obtain ⟨hi1, k⟩ := k
  refine m2_iald hB dX12_findWay_213 sh_kM_cost hi1 ?_
  refine m2_ldc hB kc_X12_244 dX12_findWay_214 ?_
  refine m2_icmp_eq hB dX12_findWay_216 (tgt := 263) (by decide) (fun q2 : (μ.1 kM_cost (v4).toNatClampNeg) = 100000000 => ?_) (fun q2 : ¬ (μ.1 kM_cost (v4).toNatClampNeg) = 100000000 => ?_)
  · replace k := k.1 q2
    exact k
  · replace k := k.2 q2
    refine m2_aload_n hB dX12_findWay_219 rfl ?_
    refine m2_iload hB dX12_findWay_220 rfl ?_
    refine m2_iload_n hB dX12_findWay_222 rfl ?_
    have hs3 := hi1
    refine m2_invi hB (as := [.int v4, .int v3]) dX12_findWay_223 mv_X12_275 rfl sh_kM rfl (Nat.le_of_ble_eq_true rfl) rfl (P_X12_beyond (by omega) (v4) (v3) _ hs3) (fun y4 μ5 hq6 => ?_)
    obtain ⟨⟨⟩, hq6⟩ := hq6
    subst μ5
    refine m2_iconst hB dX12_findWay_226 (v := (-1)) (by decide) ?_
    refine m2_icmp_eq hB dX12_findWay_227 (tgt := 263) (by decide) (fun q7 : (fX12_beyond v4 v3 μ) = (-1) => ?_) (fun q7 : ¬ (fX12_beyond v4 v3 μ) = (-1) => ?_)
    · replace k := k.1 q7
      exact k
    · replace k := k.2 q7
      refine m2_aload_n hB dX12_findWay_230 rfl ?_
      refine m2_getR hB dX12_findWay_231 fl_X12_80 sh_kM (c1 := kM_far) rfl ?_
      refine m2_aload_n hB dX12_findWay_234 rfl ?_
      refine m2_iload hB dX12_findWay_235 rfl ?_
      refine m2_iload_n hB dX12_findWay_237 rfl ?_
      have hs8 := hi1
      refine m2_invi hB (as := [.int v4, .int v3]) dX12_findWay_238 mv_X12_275 rfl sh_kM rfl (Nat.le_of_ble_eq_true rfl) rfl (P_X12_beyond (by omega) (v4) (v3) _ hs8) (fun y9 μ10 hq11 => ?_)
      obtain ⟨⟨⟩, hq11⟩ := hq11
      subst μ10
      obtain ⟨hi12, k⟩ := k
      refine m2_lald hB dX12_findWay_241 sh_kM_far hi12 ?_
      refine m2_aload_n hB dX12_findWay_242 rfl ?_
      refine m2_getR hB dX12_findWay_243 fl_X12_77 sh_kM (c1 := kM_cost) rfl ?_
      refine m2_iload hB dX12_findWay_246 rfl ?_
      have hi13 := hi1
      refine m2_iald hB dX12_findWay_248 sh_kM_cost hi13 ?_
      refine m2_invSl hB (as := [.int (μ.1 kM_cost (v4).toNatClampNeg)]) dX12_findWay_249 ms_X12_268 rfl (Nat.le_of_ble_eq_true rfl) rfl (P_X12_step (by omega) ((μ.1 kM_cost (v4).toNatClampNeg)) _ ) (fun y14 μ15 hq16 => ?_)
      obtain ⟨⟨⟩, hq16⟩ := hq16
      subst μ15
      refine m2_ladd hB dX12_findWay_252 ?_
      refine m2_aload_n hB dX12_findWay_253 rfl ?_
      refine m2_getR hB dX12_findWay_254 fl_X12_80 sh_kM (c1 := kM_far) rfl ?_
      refine m2_iload_n hB dX12_findWay_257 rfl ?_
      obtain ⟨hi17, k⟩ := k
      refine m2_lald hB dX12_findWay_258 sh_kM_far hi17 ?_
      refine m2_lcmp hB dX12_findWay_259 ?_
      refine m2_if_eq hB dX12_findWay_260 (tgt := 269) (by decide) (fun q18 : (lg_cmp (((μ).2 kM_far ((fX12_beyond v4 v3 μ)).toNatClampNeg) + (fX12_step (μ.1 kM_cost (v4).toNatClampNeg))) ((μ).2 kM_far (v3).toNatClampNeg)) = 0 => ?_) (fun q18 : ¬ (lg_cmp (((μ).2 kM_far ((fX12_beyond v4 v3 μ)).toNatClampNeg) + (fX12_step (μ.1 kM_cost (v4).toNatClampNeg))) ((μ).2 kM_far (v3).toNatClampNeg)) = 0 => ?_)
      · replace k := k.1 q18
        refine m2_aload_n hB dX12_findWay_269 rfl ?_
        refine m2_getR hB dX12_findWay_270 fl_X12_83 sh_kM (c1 := kM_way) rfl ?_
        refine m2_aload_n hB dX12_findWay_273 rfl ?_
        refine m2_getI hB dX12_findWay_274 fl_X12_248 sh_kM rfl ?_
        refine m2_iload hB dX12_findWay_277 rfl ?_
        obtain ⟨hi19, k⟩ := k
        refine m2_iast hB dX12_findWay_279 sh_kM_way hi19 ?_
        refine m2_aload_n hB dX12_findWay_280 rfl ?_
        refine m2_dup hB dX12_findWay_281 rfl ?_
        refine m2_getI hB dX12_findWay_282 fl_X12_248 sh_kM rfl ?_
        refine m2_iconst hB dX12_findWay_285 (v := 1) (by decide) ?_
        refine m2_iadd hB dX12_findWay_286 ?_
        refine m2_putI hB dX12_findWay_287 fl_X12_248 sh_kM rfl ?_
        refine m2_aload_n hB dX12_findWay_290 rfl ?_
        refine m2_iload hB dX12_findWay_291 rfl ?_
        refine m2_iload_n hB dX12_findWay_293 rfl ?_
        have hs20 := hi1
        refine m2_invi hB (as := [.int v4, .int v3]) dX12_findWay_294 mv_X12_275 rfl sh_kM rfl (Nat.le_of_ble_eq_true rfl) rfl (P_X12_beyond (by omega) (v4) (v3) _ hs20) (fun y21 μ22 hq23 => ?_)
        obtain ⟨⟨⟩, hq23⟩ := hq23
        subst μ22
        refine m2_istore_n hB (ls' := [.ref kM, .int v1, .int v2, .int (fX12_beyond v4 v3 (m2_si (m2_si μ kM_way ((μ.1 kM 37)).toNatClampNeg v4) kM 37 ((μ.1 kM 37) + 1))), .int v4, .null, .null]) dX12_findWay_297 rfl (by decide) rfl ?_
        refine m2_goto hB dX12_findWay_298 (tgt := 199) (by decide) ?_
        exact m2_weak (ls' := [.ref kM, .int v1, .int v2, .int (fX12_beyond v4 v3 (m2_si (m2_si μ kM_way ((μ.1 kM 37)).toNatClampNeg v4) kM 37 ((μ.1 kM 37) + 1))), .null, .null, .null]) hB ⟨Or.inr rfl, Or.inr rfl, Or.inr rfl, Or.inr rfl, Or.inl rfl, Or.inl rfl, Or.inl rfl, trivial⟩ k
      · replace k := k.2 q18
        exact k
set_option maxRecDepth 100000 in
set_option maxHeartbeats 4000000 in
theorem B_X12_findWay_263 {κ : Nat → List Value → List Value → m2M → Prop} {D : Nat} {Q : Option Value → m2M → Prop} (h : m2_RL κ cX12_findWay RX12 7 D (some .boolean) Q) {v1 : Int32} {v2 : Int32} {v3 : Int32} {v4 : Int32} {μ : m2M} (k : κ 207 [.ref kM, .int v1, .int v2, .int v3, .int (v4 + 1), .null, .null] [] μ) : κ 263 [.ref kM, .int v1, .int v2, .int v3, .int v4, .null, .null] [] μ := by
  have hB := h.b
  refine m2_iinc hB (ls' := [.ref kM, .int v1, .int v2, .int v3, .int (v4 + 1), .null, .null]) (v := (v4 + 1)) dX12_findWay_263 rfl (by decide) rfl rfl ?_
  refine m2_goto hB dX12_findWay_266 (tgt := 207) (by decide) ?_
  exact k
theorem dX12_findOpenWay_0 : decode cX12_findOpenWay 0 = .ok (.iconst 0, 1) := by decide +kernel
theorem dX12_findOpenWay_1 : decode cX12_findOpenWay 1 = .ok (.istore_n 3, 1) := by decide +kernel
theorem dX12_findOpenWay_2 : decode cX12_findOpenWay 2 = .ok (.iload_n 3, 1) := by decide +kernel
theorem dX12_findOpenWay_3 : decode cX12_findOpenWay 3 = .ok (.aload_n 0, 1) := by decide +kernel
theorem dX12_findOpenWay_4 : decode cX12_findOpenWay 4 = .ok (.getfield 153, 3) := by decide +kernel
theorem dX12_findOpenWay_7 : decode cX12_findOpenWay 7 = .ok (.if_icmp .ge 30, 3) := by decide +kernel
theorem dX12_findOpenWay_10 : decode cX12_findOpenWay 10 = .ok (.aload_n 0, 1) := by decide +kernel
theorem dX12_findOpenWay_11 : decode cX12_findOpenWay 11 = .ok (.getfield 77, 3) := by decide +kernel
theorem dX12_findOpenWay_14 : decode cX12_findOpenWay 14 = .ok (.iload_n 3, 1) := by decide +kernel
theorem dX12_findOpenWay_15 : decode cX12_findOpenWay 15 = .ok (.aload_n 0, 1) := by decide +kernel
theorem dX12_findOpenWay_16 : decode cX12_findOpenWay 16 = .ok (.getfield 23, 3) := by decide +kernel
theorem dX12_findOpenWay_19 : decode cX12_findOpenWay 19 = .ok (.iload_n 3, 1) := by decide +kernel
theorem dX12_findOpenWay_20 : decode cX12_findOpenWay 20 = .ok (.iaload, 1) := by decide +kernel
theorem dX12_findOpenWay_21 : decode cX12_findOpenWay 21 = .ok (.ifCond .le 7, 3) := by decide +kernel
theorem dX12_findOpenWay_24 : decode cX12_findOpenWay 24 = .ok (.iconst 1, 1) := by decide +kernel
theorem dX12_findOpenWay_25 : decode cX12_findOpenWay 25 = .ok (.goto 5, 3) := by decide +kernel
theorem dX12_findOpenWay_28 : decode cX12_findOpenWay 28 = .ok (.ldc 244, 2) := by decide +kernel
theorem dX12_findOpenWay_30 : decode cX12_findOpenWay 30 = .ok (.iastore, 1) := by decide +kernel
theorem dX12_findOpenWay_31 : decode cX12_findOpenWay 31 = .ok (.iinc 3 1, 3) := by decide +kernel
theorem dX12_findOpenWay_34 : decode cX12_findOpenWay 34 = .ok (.goto (-32), 3) := by decide +kernel
theorem dX12_findOpenWay_37 : decode cX12_findOpenWay 37 = .ok (.aload_n 0, 1) := by decide +kernel
theorem dX12_findOpenWay_38 : decode cX12_findOpenWay 38 = .ok (.iload_n 1, 1) := by decide +kernel
theorem dX12_findOpenWay_39 : decode cX12_findOpenWay 39 = .ok (.iload_n 2, 1) := by decide +kernel
theorem dX12_findOpenWay_40 : decode cX12_findOpenWay 40 = .ok (.invokevirtual 245, 3) := by decide +kernel
theorem dX12_findOpenWay_43 : decode cX12_findOpenWay 43 = .ok (.ireturn, 1) := by decide +kernel
set_option maxRecDepth 100000 in
set_option maxHeartbeats 4000000 in
theorem B_X12_findOpenWay_0 {κ : Nat → List Value → List Value → m2M → Prop} {D : Nat} {Q : Option Value → m2M → Prop} (h : m2_RL κ cX12_findOpenWay RX12 4 D (some .boolean) Q) {x1 : Int32} {x2 : Int32} {μ : m2M} (k : κ 2 [.ref kM, .int x1, .int x2, .int 0] [] μ) : κ 0 [.ref kM, .int x1, .int x2, .null] [] μ := by
  have hB := h.b
  refine m2_iconst hB dX12_findOpenWay_0 (v := 0) (by decide) ?_
  refine m2_istore_n hB (ls' := [.ref kM, .int x1, .int x2, .int 0]) dX12_findOpenWay_1 rfl (by decide) rfl ?_
  exact k
set_option maxRecDepth 100000 in
set_option maxHeartbeats 4000000 in
theorem B_X12_findOpenWay_2 {κ : Nat → List Value → List Value → m2M → Prop} {D : Nat} {Q : Option Value → m2M → Prop} (h : m2_RL κ cX12_findOpenWay RX12 4 (D + 1) (some .boolean) Q) {v1 : Int32} {v2 : Int32} {v3 : Int32} {μ : m2M} (k : ((μ.1 kM 0) ≤ v3 → ∃ Q5 : Option Value → m2M → Prop, m2_MT D yX12_findWay cX12_findWay 7 (some .boolean) [.ref kM, .int v1, .int v2] μ Q5 ∧ ∀ (y3 : Int32) (μ4 : m2M), Q5 (some (.int y3)) μ4 → (((y3 = 0 ∨ y3 = 1)) ∧ (Q (some (.int y3)) μ4))) ∧ (¬ (μ.1 kM 0) ≤ v3 → (vp_in v3 20) ∧ (κ 2 [.ref kM, .int v1, .int v2, .int (v3 + 1)] [] (m2_si μ kM_cost (v3).toNatClampNeg (if (μ.1 kM_left (v3).toNatClampNeg) ≤ 0 then 100000000 else 1 : Int32))))) : κ 2 [.ref kM, .int v1, .int v2, .int v3] [] μ := by
  have hB := h.b
  refine m2_iload_n hB dX12_findOpenWay_2 rfl ?_
  refine m2_aload_n hB dX12_findOpenWay_3 rfl ?_
  refine m2_getI hB dX12_findOpenWay_4 fl_X12_153 sh_kM rfl ?_
  refine m2_icmp_ge hB dX12_findOpenWay_7 (tgt := 37) (by decide) (fun q2 : (μ.1 kM 0) ≤ v3 => ?_) (fun q2 : ¬ (μ.1 kM 0) ≤ v3 => ?_)
  · replace k := k.1 q2
    refine m2_aload_n hB dX12_findOpenWay_37 rfl ?_
    refine m2_iload_n hB dX12_findOpenWay_38 rfl ?_
    refine m2_iload_n hB dX12_findOpenWay_39 rfl ?_
    obtain ⟨Q5, hM6, k⟩ := k
    refine m2_invz hB (as := [.int v1, .int v2]) dX12_findOpenWay_40 mv_X12_245 rfl sh_kM rfl (Nat.le_of_ble_eq_true rfl) rfl hM6 (fun y3 μ4 hq7 => ?_)
    replace k := k y3 μ4 hq7
    obtain ⟨hz8, k⟩ := k
    exact m2_zret h dX12_findOpenWay_43 hz8 k
  · replace k := k.2 q2
    refine m2_aload_n hB dX12_findOpenWay_10 rfl ?_
    refine m2_getR hB dX12_findOpenWay_11 fl_X12_77 sh_kM (c1 := kM_cost) rfl ?_
    refine m2_iload_n hB dX12_findOpenWay_14 rfl ?_
    refine m2_aload_n hB dX12_findOpenWay_15 rfl ?_
    refine m2_getR hB dX12_findOpenWay_16 fl_X12_23 sh_kM (c1 := kM_left) rfl ?_
    refine m2_iload_n hB dX12_findOpenWay_19 rfl ?_
    obtain ⟨hi9, k⟩ := k
    refine m2_iald hB dX12_findOpenWay_20 sh_kM_left hi9 ?_
    have G11 : κ 30 [.ref kM, .int v1, .int v2, .int v3] [.int (if (μ.1 kM_left (v3).toNatClampNeg) ≤ 0 then 100000000 else 1 : Int32), .int v3, .ref kM_cost] μ := by
      have hi12 := hi9
      refine m2_iast hB dX12_findOpenWay_30 sh_kM_cost hi12 ?_
      refine m2_iinc hB (ls' := [.ref kM, .int v1, .int v2, .int (v3 + 1)]) (v := (v3 + 1)) dX12_findOpenWay_31 rfl (by decide) rfl rfl ?_
      refine m2_goto hB dX12_findOpenWay_34 (tgt := 2) (by decide) ?_
      exact k
    refine m2_if_le hB dX12_findOpenWay_21 (tgt := 28) (by decide) (fun q10 : (μ.1 kM_left (v3).toNatClampNeg) ≤ 0 => ?_) (fun q10 : ¬ (μ.1 kM_left (v3).toNatClampNeg) ≤ 0 => ?_)
    · rw [if_pos q10] at G11
      refine m2_ldc hB kc_X12_244 dX12_findOpenWay_28 ?_
      exact G11
    · rw [if_neg q10] at G11
      refine m2_iconst hB dX12_findOpenWay_24 (v := 1) (by decide) ?_
      refine m2_goto hB dX12_findOpenWay_25 (tgt := 30) (by decide) ?_
      exact G11
theorem dX12_tellWay_0 : decode cX12_tellWay 0 = .ok (.iconst 0, 1) := by decide +kernel
theorem dX12_tellWay_1 : decode cX12_tellWay 1 = .ok (.istore_n 1, 1) := by decide +kernel
theorem dX12_tellWay_2 : decode cX12_tellWay 2 = .ok (.iload_n 1, 1) := by decide +kernel
theorem dX12_tellWay_3 : decode cX12_tellWay 3 = .ok (.aload_n 0, 1) := by decide +kernel
theorem dX12_tellWay_4 : decode cX12_tellWay 4 = .ok (.getfield 248, 3) := by decide +kernel
theorem dX12_tellWay_7 : decode cX12_tellWay 7 = .ok (.if_icmp .ge 20, 3) := by decide +kernel
theorem dX12_tellWay_10 : decode cX12_tellWay 10 = .ok (.aload_n 0, 1) := by decide +kernel
theorem dX12_tellWay_11 : decode cX12_tellWay 11 = .ok (.aload_n 0, 1) := by decide +kernel
theorem dX12_tellWay_12 : decode cX12_tellWay 12 = .ok (.getfield 83, 3) := by decide +kernel
theorem dX12_tellWay_15 : decode cX12_tellWay 15 = .ok (.iload_n 1, 1) := by decide +kernel
theorem dX12_tellWay_16 : decode cX12_tellWay 16 = .ok (.iaload, 1) := by decide +kernel
theorem dX12_tellWay_17 : decode cX12_tellWay 17 = .ok (.i2l, 1) := by decide +kernel
theorem dX12_tellWay_18 : decode cX12_tellWay 18 = .ok (.invokevirtual 278, 3) := by decide +kernel
theorem dX12_tellWay_21 : decode cX12_tellWay 21 = .ok (.iinc 1 1, 3) := by decide +kernel
theorem dX12_tellWay_24 : decode cX12_tellWay 24 = .ok (.goto (-22), 3) := by decide +kernel
theorem dX12_tellWay_27 : decode cX12_tellWay 27 = .ok (.return_, 1) := by decide +kernel
set_option maxRecDepth 100000 in
set_option maxHeartbeats 4000000 in
theorem B_X12_tellWay_0 {κ : Nat → List Value → List Value → m2M → Prop} {D : Nat} {Q : Option Value → m2M → Prop} (h : m2_RL κ cX12_tellWay RX12 2 D none Q)  {μ : m2M} (k : κ 2 [.ref kM, .int 0] [] μ) : κ 0 [.ref kM, .null] [] μ := by
  have hB := h.b
  refine m2_iconst hB dX12_tellWay_0 (v := 0) (by decide) ?_
  refine m2_istore_n hB (ls' := [.ref kM, .int 0]) dX12_tellWay_1 rfl (by decide) rfl ?_
  exact k
set_option maxRecDepth 100000 in
set_option maxHeartbeats 4000000 in
theorem B_X12_tellWay_2 {κ : Nat → List Value → List Value → m2M → Prop} {D : Nat} {Q : Option Value → m2M → Prop} (h : m2_RL κ cX12_tellWay RX12 2 (D + 1) none Q) {v1 : Int32} {μ : m2M} (k : ((μ.1 kM 37) ≤ v1 → Q none μ) ∧ (¬ (μ.1 kM 37) ≤ v1 → (vp_in v1 12) ∧ (∃ Q6 : Option Value → m2M → Prop, m2_MT D yX12_tell cX12_tell 3 none [.ref kM, .long ((μ.1 kM_way (v1).toNatClampNeg)).toInt64] μ Q6 ∧ ∀ (μ5 : m2M), Q6 none μ5 → (κ 2 [.ref kM, .int (v1 + 1)] [] μ5)))) : κ 2 [.ref kM, .int v1] [] μ := by
  have hB := h.b
  refine m2_iload_n hB dX12_tellWay_2 rfl ?_
  refine m2_aload_n hB dX12_tellWay_3 rfl ?_
  refine m2_getI hB dX12_tellWay_4 fl_X12_248 sh_kM rfl ?_
  refine m2_icmp_ge hB dX12_tellWay_7 (tgt := 27) (by decide) (fun q2 : (μ.1 kM 37) ≤ v1 => ?_) (fun q2 : ¬ (μ.1 kM 37) ≤ v1 => ?_)
  · replace k := k.1 q2
    exact m2_vret h dX12_tellWay_27 k
  · replace k := k.2 q2
    refine m2_aload_n hB dX12_tellWay_10 rfl ?_
    refine m2_aload_n hB dX12_tellWay_11 rfl ?_
    refine m2_getR hB dX12_tellWay_12 fl_X12_83 sh_kM (c1 := kM_way) rfl ?_
    refine m2_iload_n hB dX12_tellWay_15 rfl ?_
    obtain ⟨hi3, k⟩ := k
    refine m2_iald hB dX12_tellWay_16 sh_kM_way hi3 ?_
    refine m2_i2l hB dX12_tellWay_17 ?_
    obtain ⟨Q6, hM7, k⟩ := k
    refine m2_invv hB (as := [.long ((μ.1 kM_way (v1).toNatClampNeg)).toInt64]) dX12_tellWay_18 mv_X12_278 rfl sh_kM rfl (Nat.le_of_ble_eq_true rfl) rfl hM7 (fun μ5 hq8 => ?_)
    replace k := k μ5 hq8
    refine m2_iinc hB (ls' := [.ref kM, .int (v1 + 1)]) (v := (v1 + 1)) dX12_tellWay_21 rfl (by decide) rfl rfl ?_
    refine m2_goto hB dX12_tellWay_24 (tgt := 2) (by decide) ?_
    exact k
theorem dX12_findPlanned_0 : decode cX12_findPlanned 0 = .ok (.iload_n 2, 1) := by decide +kernel
theorem dX12_findPlanned_1 : decode cX12_findPlanned 1 = .ok (.iconst 3, 1) := by decide +kernel
theorem dX12_findPlanned_2 : decode cX12_findPlanned 2 = .ok (.if_icmp .ne 14, 3) := by decide +kernel
theorem dX12_findPlanned_5 : decode cX12_findPlanned 5 = .ok (.aload_n 0, 1) := by decide +kernel
theorem dX12_findPlanned_6 : decode cX12_findPlanned 6 = .ok (.getfield 238, 3) := by decide +kernel
theorem dX12_findPlanned_9 : decode cX12_findPlanned 9 = .ok (.ifCond .le 7, 3) := by decide +kernel
theorem dX12_findPlanned_12 : decode cX12_findPlanned 12 = .ok (.aload_n 0, 1) := by decide +kernel
theorem dX12_findPlanned_13 : decode cX12_findPlanned 13 = .ok (.invokevirtual 282, 3) := by decide +kernel
theorem dX12_findPlanned_16 : decode cX12_findPlanned 16 = .ok (.iconst 0, 1) := by decide +kernel
theorem dX12_findPlanned_17 : decode cX12_findPlanned 17 = .ok (.istore 4, 2) := by decide +kernel
theorem dX12_findPlanned_19 : decode cX12_findPlanned 19 = .ok (.iload 4, 2) := by decide +kernel
theorem dX12_findPlanned_21 : decode cX12_findPlanned 21 = .ok (.aload_n 0, 1) := by decide +kernel
theorem dX12_findPlanned_22 : decode cX12_findPlanned 22 = .ok (.getfield 153, 3) := by decide +kernel
theorem dX12_findPlanned_25 : decode cX12_findPlanned 25 = .ok (.if_icmp .ge 121, 3) := by decide +kernel
theorem dX12_findPlanned_28 : decode cX12_findPlanned 28 = .ok (.aload_n 0, 1) := by decide +kernel
theorem dX12_findPlanned_29 : decode cX12_findPlanned 29 = .ok (.getfield 77, 3) := by decide +kernel
theorem dX12_findPlanned_32 : decode cX12_findPlanned 32 = .ok (.iload 4, 2) := by decide +kernel
theorem dX12_findPlanned_34 : decode cX12_findPlanned 34 = .ok (.aload_n 0, 1) := by decide +kernel
theorem dX12_findPlanned_35 : decode cX12_findPlanned 35 = .ok (.getfield 23, 3) := by decide +kernel
theorem dX12_findPlanned_38 : decode cX12_findPlanned 38 = .ok (.iload 4, 2) := by decide +kernel
theorem dX12_findPlanned_40 : decode cX12_findPlanned 40 = .ok (.iaload, 1) := by decide +kernel
theorem dX12_findPlanned_41 : decode cX12_findPlanned 41 = .ok (.ifCond .ne 8, 3) := by decide +kernel
theorem dX12_findPlanned_44 : decode cX12_findPlanned 44 = .ok (.ldc 244, 2) := by decide +kernel
theorem dX12_findPlanned_46 : decode cX12_findPlanned 46 = .ok (.goto 4, 3) := by decide +kernel
theorem dX12_findPlanned_49 : decode cX12_findPlanned 49 = .ok (.iconst 1, 1) := by decide +kernel
theorem dX12_findPlanned_50 : decode cX12_findPlanned 50 = .ok (.iastore, 1) := by decide +kernel
theorem dX12_findPlanned_51 : decode cX12_findPlanned 51 = .ok (.iload_n 2, 1) := by decide +kernel
theorem dX12_findPlanned_52 : decode cX12_findPlanned 52 = .ok (.iconst 1, 1) := by decide +kernel
theorem dX12_findPlanned_53 : decode cX12_findPlanned 53 = .ok (.if_icmp .ne 30, 3) := by decide +kernel
theorem dX12_findPlanned_56 : decode cX12_findPlanned 56 = .ok (.aload_n 0, 1) := by decide +kernel
theorem dX12_findPlanned_57 : decode cX12_findPlanned 57 = .ok (.getfield 23, 3) := by decide +kernel
theorem dX12_findPlanned_60 : decode cX12_findPlanned 60 = .ok (.iload 4, 2) := by decide +kernel
theorem dX12_findPlanned_62 : decode cX12_findPlanned 62 = .ok (.iaload, 1) := by decide +kernel
theorem dX12_findPlanned_63 : decode cX12_findPlanned 63 = .ok (.ifCond .le 20, 3) := by decide +kernel
theorem dX12_findPlanned_66 : decode cX12_findPlanned 66 = .ok (.aload_n 0, 1) := by decide +kernel
theorem dX12_findPlanned_67 : decode cX12_findPlanned 67 = .ok (.getfield 77, 3) := by decide +kernel
theorem dX12_findPlanned_70 : decode cX12_findPlanned 70 = .ok (.iload 4, 2) := by decide +kernel
theorem dX12_findPlanned_72 : decode cX12_findPlanned 72 = .ok (.bipush 61, 2) := by decide +kernel
theorem dX12_findPlanned_74 : decode cX12_findPlanned 74 = .ok (.aload_n 0, 1) := by decide +kernel
theorem dX12_findPlanned_75 : decode cX12_findPlanned 75 = .ok (.getfield 23, 3) := by decide +kernel
theorem dX12_findPlanned_78 : decode cX12_findPlanned 78 = .ok (.iload 4, 2) := by decide +kernel
theorem dX12_findPlanned_80 : decode cX12_findPlanned 80 = .ok (.iaload, 1) := by decide +kernel
theorem dX12_findPlanned_81 : decode cX12_findPlanned 81 = .ok (.isub, 1) := by decide +kernel
theorem dX12_findPlanned_82 : decode cX12_findPlanned 82 = .ok (.iastore, 1) := by decide +kernel
theorem dX12_findPlanned_83 : decode cX12_findPlanned 83 = .ok (.iload_n 2, 1) := by decide +kernel
theorem dX12_findPlanned_84 : decode cX12_findPlanned 84 = .ok (.iconst 2, 1) := by decide +kernel
theorem dX12_findPlanned_85 : decode cX12_findPlanned 85 = .ok (.if_icmp .ne 26, 3) := by decide +kernel
theorem dX12_findPlanned_88 : decode cX12_findPlanned 88 = .ok (.aload_n 0, 1) := by decide +kernel
theorem dX12_findPlanned_89 : decode cX12_findPlanned 89 = .ok (.getfield 23, 3) := by decide +kernel
theorem dX12_findPlanned_92 : decode cX12_findPlanned 92 = .ok (.iload 4, 2) := by decide +kernel
theorem dX12_findPlanned_94 : decode cX12_findPlanned 94 = .ok (.iaload, 1) := by decide +kernel
theorem dX12_findPlanned_95 : decode cX12_findPlanned 95 = .ok (.aload_n 0, 1) := by decide +kernel
theorem dX12_findPlanned_96 : decode cX12_findPlanned 96 = .ok (.getfield 53, 3) := by decide +kernel
theorem dX12_findPlanned_99 : decode cX12_findPlanned 99 = .ok (.if_icmp .gt 12, 3) := by decide +kernel
theorem dX12_findPlanned_102 : decode cX12_findPlanned 102 = .ok (.aload_n 0, 1) := by decide +kernel
theorem dX12_findPlanned_103 : decode cX12_findPlanned 103 = .ok (.getfield 77, 3) := by decide +kernel
theorem dX12_findPlanned_106 : decode cX12_findPlanned 106 = .ok (.iload 4, 2) := by decide +kernel
theorem dX12_findPlanned_108 : decode cX12_findPlanned 108 = .ok (.ldc 244, 2) := by decide +kernel
theorem dX12_findPlanned_110 : decode cX12_findPlanned 110 = .ok (.iastore, 1) := by decide +kernel
theorem dX12_findPlanned_111 : decode cX12_findPlanned 111 = .ok (.iload_n 2, 1) := by decide +kernel
theorem dX12_findPlanned_112 : decode cX12_findPlanned 112 = .ok (.iconst 3, 1) := by decide +kernel
theorem dX12_findPlanned_113 : decode cX12_findPlanned 113 = .ok (.if_icmp .ne 27, 3) := by decide +kernel
theorem dX12_findPlanned_116 : decode cX12_findPlanned 116 = .ok (.aload_n 0, 1) := by decide +kernel
theorem dX12_findPlanned_117 : decode cX12_findPlanned 117 = .ok (.getfield 23, 3) := by decide +kernel
theorem dX12_findPlanned_120 : decode cX12_findPlanned 120 = .ok (.iload 4, 2) := by decide +kernel
theorem dX12_findPlanned_122 : decode cX12_findPlanned 122 = .ok (.iaload, 1) := by decide +kernel
theorem dX12_findPlanned_123 : decode cX12_findPlanned 123 = .ok (.ifCond .le 17, 3) := by decide +kernel
theorem dX12_findPlanned_126 : decode cX12_findPlanned 126 = .ok (.aload_n 0, 1) := by decide +kernel
theorem dX12_findPlanned_127 : decode cX12_findPlanned 127 = .ok (.getfield 77, 3) := by decide +kernel
theorem dX12_findPlanned_130 : decode cX12_findPlanned 130 = .ok (.iload 4, 2) := by decide +kernel
theorem dX12_findPlanned_132 : decode cX12_findPlanned 132 = .ok (.aload_n 0, 1) := by decide +kernel
theorem dX12_findPlanned_133 : decode cX12_findPlanned 133 = .ok (.iload_n 1, 1) := by decide +kernel
theorem dX12_findPlanned_134 : decode cX12_findPlanned 134 = .ok (.iload 4, 2) := by decide +kernel
theorem dX12_findPlanned_136 : decode cX12_findPlanned 136 = .ok (.invokevirtual 285, 3) := by decide +kernel
theorem dX12_findPlanned_139 : decode cX12_findPlanned 139 = .ok (.iastore, 1) := by decide +kernel
theorem dX12_findPlanned_140 : decode cX12_findPlanned 140 = .ok (.iinc 4 1, 3) := by decide +kernel
theorem dX12_findPlanned_143 : decode cX12_findPlanned 143 = .ok (.goto (-124), 3) := by decide +kernel
theorem dX12_findPlanned_146 : decode cX12_findPlanned 146 = .ok (.aload_n 0, 1) := by decide +kernel
theorem dX12_findPlanned_147 : decode cX12_findPlanned 147 = .ok (.aload_n 0, 1) := by decide +kernel
theorem dX12_findPlanned_148 : decode cX12_findPlanned 148 = .ok (.getfield 29, 3) := by decide +kernel
theorem dX12_findPlanned_151 : decode cX12_findPlanned 151 = .ok (.iload_n 1, 1) := by decide +kernel
theorem dX12_findPlanned_152 : decode cX12_findPlanned 152 = .ok (.iaload, 1) := by decide +kernel
theorem dX12_findPlanned_153 : decode cX12_findPlanned 153 = .ok (.iload_n 3, 1) := by decide +kernel
theorem dX12_findPlanned_154 : decode cX12_findPlanned 154 = .ok (.invokevirtual 245, 3) := by decide +kernel
theorem dX12_findPlanned_157 : decode cX12_findPlanned 157 = .ok (.ireturn, 1) := by decide +kernel
set_option maxRecDepth 100000 in
set_option maxHeartbeats 4000000 in
theorem B_X12_findPlanned_0 {κ : Nat → List Value → List Value → m2M → Prop} {D : Nat} {Q : Option Value → m2M → Prop} (h : m2_RL κ cX12_findPlanned RX12 5 (D + 1) (some .boolean) Q) {x1 : Int32} {x2 : Int32} {x3 : Int32} {μ : m2M} (k : (¬ x2 = 3 → κ 16 [.ref kM, .int x1, .int x2, .int x3, .null] [] μ) ∧ (x2 = 3 → ((μ.1 kM 29) ≤ 0 → κ 16 [.ref kM, .int x1, .int x2, .int x3, .null] [] μ) ∧ (¬ (μ.1 kM 29) ≤ 0 → ∃ Q5 : Option Value → m2M → Prop, m2_MT D yX12_findTheirWays cX12_findTheirWays 3 none [.ref kM] μ Q5 ∧ ∀ (μ4 : m2M), Q5 none μ4 → (κ 16 [.ref kM, .int x1, .int x2, .int x3, .null] [] μ4)))) : κ 0 [.ref kM, .int x1, .int x2, .int x3, .null] [] μ := by
  have hB := h.b
  refine m2_iload_n hB dX12_findPlanned_0 rfl ?_
  refine m2_iconst hB dX12_findPlanned_1 (v := 3) (by decide) ?_
  refine m2_icmp_ne hB dX12_findPlanned_2 (tgt := 16) (by decide) (fun q1 : ¬ x2 = 3 => ?_) (fun q1 : x2 = 3 => ?_)
  · replace k := k.1 q1
    exact k
  · replace k := k.2 q1
    refine m2_aload_n hB dX12_findPlanned_5 rfl ?_
    refine m2_getI hB dX12_findPlanned_6 fl_X12_238 sh_kM rfl ?_
    refine m2_if_le hB dX12_findPlanned_9 (tgt := 16) (by decide) (fun q2 : (μ.1 kM 29) ≤ 0 => ?_) (fun q2 : ¬ (μ.1 kM 29) ≤ 0 => ?_)
    · replace k := k.1 q2
      exact k
    · replace k := k.2 q2
      refine m2_aload_n hB dX12_findPlanned_12 rfl ?_
      obtain ⟨Q5, hM6, k⟩ := k
      refine m2_invv hB (as := []) dX12_findPlanned_13 mv_X12_282 rfl sh_kM rfl (Nat.le_of_ble_eq_true rfl) rfl hM6 (fun μ4 hq7 => ?_)
      replace k := k μ4 hq7
      exact k
set_option maxRecDepth 100000 in
set_option maxHeartbeats 4000000 in
theorem B_X12_findPlanned_16 {κ : Nat → List Value → List Value → m2M → Prop} {D : Nat} {Q : Option Value → m2M → Prop} (h : m2_RL κ cX12_findPlanned RX12 5 D (some .boolean) Q) {v1 : Int32} {v2 : Int32} {v3 : Int32} {μ : m2M} (k : κ 19 [.ref kM, .int v1, .int v2, .int v3, .int 0] [] μ) : κ 16 [.ref kM, .int v1, .int v2, .int v3, .null] [] μ := by
  have hB := h.b
  refine m2_iconst hB dX12_findPlanned_16 (v := 0) (by decide) ?_
  refine m2_istore hB (ls' := [.ref kM, .int v1, .int v2, .int v3, .int 0]) dX12_findPlanned_17 (by decide) rfl ?_
  exact k
set_option maxRecDepth 100000 in
set_option maxHeartbeats 4000000 in
theorem B_X12_findPlanned_19 {κ : Nat → List Value → List Value → m2M → Prop} {D : Nat} {Q : Option Value → m2M → Prop} (h : m2_RL κ cX12_findPlanned RX12 5 (D + 1) (some .boolean) Q) {v1 : Int32} {v2 : Int32} {v3 : Int32} {v4 : Int32} {μ : m2M} (k : ((μ.1 kM 0) ≤ v4 → (vp_in v1 8) ∧ (∃ Q6 : Option Value → m2M → Prop, m2_MT D yX12_findWay cX12_findWay 7 (some .boolean) [.ref kM, .int (μ.1 kM_where (v1).toNatClampNeg), .int v3] μ Q6 ∧ ∀ (y4 : Int32) (μ5 : m2M), Q6 (some (.int y4)) μ5 → (((y4 = 0 ∨ y4 = 1)) ∧ (Q (some (.int y4)) μ5)))) ∧ (¬ (μ.1 kM 0) ≤ v4 → (vp_in v4 20) ∧ ((¬ v2 = 1 → κ 83 [.ref kM, .int v1, .int v2, .int v3, .int v4] [] (m2_si μ kM_cost (v4).toNatClampNeg (if (μ.1 kM_left (v4).toNatClampNeg) = 0 then 100000000 else 1 : Int32))) ∧ (v2 = 1 → ((μ.1 kM_left (v4).toNatClampNeg) ≤ 0 → κ 83 [.ref kM, .int v1, .int v2, .int v3, .int v4] [] (m2_si μ kM_cost (v4).toNatClampNeg (if (μ.1 kM_left (v4).toNatClampNeg) = 0 then 100000000 else 1 : Int32))) ∧ (¬ (μ.1 kM_left (v4).toNatClampNeg) ≤ 0 → κ 83 [.ref kM, .int v1, .int v2, .int v3, .int v4] [] (m2_si (m2_si μ kM_cost (v4).toNatClampNeg (if (μ.1 kM_left (v4).toNatClampNeg) = 0 then 100000000 else 1 : Int32)) kM_cost (v4).toNatClampNeg ((61 : Int32) - (μ.1 kM_left (v4).toNatClampNeg)))))))) : κ 19 [.ref kM, .int v1, .int v2, .int v3, .int v4] [] μ := by
  have hB := h.b
  refine m2_iload hB dX12_findPlanned_19 rfl ?_
  refine m2_aload_n hB dX12_findPlanned_21 rfl ?_
  refine m2_getI hB dX12_findPlanned_22 fl_X12_153 sh_kM rfl ?_
  refine m2_icmp_ge hB dX12_findPlanned_25 (tgt := 146) (by decide) (fun q2 : (μ.1 kM 0) ≤ v4 => ?_) (fun q2 : ¬ (μ.1 kM 0) ≤ v4 => ?_)
  · replace k := k.1 q2
    refine m2_aload_n hB dX12_findPlanned_146 rfl ?_
    refine m2_aload_n hB dX12_findPlanned_147 rfl ?_
    refine m2_getR hB dX12_findPlanned_148 fl_X12_29 sh_kM (c1 := kM_where) rfl ?_
    refine m2_iload_n hB dX12_findPlanned_151 rfl ?_
    obtain ⟨hi3, k⟩ := k
    refine m2_iald hB dX12_findPlanned_152 sh_kM_where hi3 ?_
    refine m2_iload_n hB dX12_findPlanned_153 rfl ?_
    obtain ⟨Q6, hM7, k⟩ := k
    refine m2_invz hB (as := [.int (μ.1 kM_where (v1).toNatClampNeg), .int v3]) dX12_findPlanned_154 mv_X12_245 rfl sh_kM rfl (Nat.le_of_ble_eq_true rfl) rfl hM7 (fun y4 μ5 hq8 => ?_)
    replace k := k y4 μ5 hq8
    obtain ⟨hz9, k⟩ := k
    exact m2_zret h dX12_findPlanned_157 hz9 k
  · replace k := k.2 q2
    refine m2_aload_n hB dX12_findPlanned_28 rfl ?_
    refine m2_getR hB dX12_findPlanned_29 fl_X12_77 sh_kM (c1 := kM_cost) rfl ?_
    refine m2_iload hB dX12_findPlanned_32 rfl ?_
    refine m2_aload_n hB dX12_findPlanned_34 rfl ?_
    refine m2_getR hB dX12_findPlanned_35 fl_X12_23 sh_kM (c1 := kM_left) rfl ?_
    refine m2_iload hB dX12_findPlanned_38 rfl ?_
    obtain ⟨hi10, k⟩ := k
    refine m2_iald hB dX12_findPlanned_40 sh_kM_left hi10 ?_
    have G12 : κ 50 [.ref kM, .int v1, .int v2, .int v3, .int v4] [.int (if (μ.1 kM_left (v4).toNatClampNeg) = 0 then 100000000 else 1 : Int32), .int v4, .ref kM_cost] μ := by
      have hi13 := hi10
      refine m2_iast hB dX12_findPlanned_50 sh_kM_cost hi13 ?_
      refine m2_iload_n hB dX12_findPlanned_51 rfl ?_
      refine m2_iconst hB dX12_findPlanned_52 (v := 1) (by decide) ?_
      refine m2_icmp_ne hB dX12_findPlanned_53 (tgt := 83) (by decide) (fun q15 : ¬ v2 = 1 => ?_) (fun q15 : v2 = 1 => ?_)
      · replace k := k.1 q15
        exact k
      · replace k := k.2 q15
        refine m2_aload_n hB dX12_findPlanned_56 rfl ?_
        refine m2_getR hB dX12_findPlanned_57 fl_X12_23 sh_kM (c1 := kM_left) rfl ?_
        refine m2_iload hB dX12_findPlanned_60 rfl ?_
        have hi16 := hi10
        refine m2_iald hB dX12_findPlanned_62 sh_kM_left hi16 ?_
        refine m2_if_le hB dX12_findPlanned_63 (tgt := 83) (by decide) (fun q18 : (μ.1 kM_left (v4).toNatClampNeg) ≤ 0 => ?_) (fun q18 : ¬ (μ.1 kM_left (v4).toNatClampNeg) ≤ 0 => ?_)
        · replace k := k.1 q18
          exact k
        · replace k := k.2 q18
          refine m2_aload_n hB dX12_findPlanned_66 rfl ?_
          refine m2_getR hB dX12_findPlanned_67 fl_X12_77 sh_kM (c1 := kM_cost) rfl ?_
          refine m2_iload hB dX12_findPlanned_70 rfl ?_
          refine m2_bipush hB dX12_findPlanned_72 (v := 61) (by decide) ?_
          refine m2_aload_n hB dX12_findPlanned_74 rfl ?_
          refine m2_getR hB dX12_findPlanned_75 fl_X12_23 sh_kM (c1 := kM_left) rfl ?_
          refine m2_iload hB dX12_findPlanned_78 rfl ?_
          have hi19 := hi10
          refine m2_iald hB dX12_findPlanned_80 sh_kM_left hi19 ?_
          refine m2_isub hB dX12_findPlanned_81 ?_
          have hi20 := hi10
          refine m2_iast hB dX12_findPlanned_82 sh_kM_cost hi20 ?_
          exact k
    refine m2_if_ne hB dX12_findPlanned_41 (tgt := 49) (by decide) (fun q11 : ¬ (μ.1 kM_left (v4).toNatClampNeg) = 0 => ?_) (fun q11 : (μ.1 kM_left (v4).toNatClampNeg) = 0 => ?_)
    · rw [if_neg q11] at G12
      refine m2_iconst hB dX12_findPlanned_49 (v := 1) (by decide) ?_
      exact G12
    · rw [if_pos q11] at G12
      refine m2_ldc hB kc_X12_244 dX12_findPlanned_44 ?_
      refine m2_goto hB dX12_findPlanned_46 (tgt := 50) (by decide) ?_
      exact G12
set_option maxRecDepth 100000 in
set_option maxHeartbeats 4000000 in
theorem B_X12_findPlanned_83 {κ : Nat → List Value → List Value → m2M → Prop} {D : Nat} {Q : Option Value → m2M → Prop} (h : m2_RL κ cX12_findPlanned RX12 5 D (some .boolean) Q) {v1 : Int32} {v2 : Int32} {v3 : Int32} {v4 : Int32} {μ : m2M} (k : (¬ v2 = 2 → κ 111 [.ref kM, .int v1, .int v2, .int v3, .int v4] [] μ) ∧ (v2 = 2 → (vp_in v4 20) ∧ (((μ.1 kM 17) < (μ.1 kM_left (v4).toNatClampNeg) → κ 111 [.ref kM, .int v1, .int v2, .int v3, .int v4] [] μ) ∧ (¬ (μ.1 kM 17) < (μ.1 kM_left (v4).toNatClampNeg) → κ 111 [.ref kM, .int v1, .int v2, .int v3, .int v4] [] (m2_si μ kM_cost (v4).toNatClampNeg 100000000))))) : κ 83 [.ref kM, .int v1, .int v2, .int v3, .int v4] [] μ := by
  have hB := h.b
  refine m2_iload_n hB dX12_findPlanned_83 rfl ?_
  refine m2_iconst hB dX12_findPlanned_84 (v := 2) (by decide) ?_
  refine m2_icmp_ne hB dX12_findPlanned_85 (tgt := 111) (by decide) (fun q2 : ¬ v2 = 2 => ?_) (fun q2 : v2 = 2 => ?_)
  · replace k := k.1 q2
    exact k
  · replace k := k.2 q2
    refine m2_aload_n hB dX12_findPlanned_88 rfl ?_
    refine m2_getR hB dX12_findPlanned_89 fl_X12_23 sh_kM (c1 := kM_left) rfl ?_
    refine m2_iload hB dX12_findPlanned_92 rfl ?_
    obtain ⟨hi3, k⟩ := k
    refine m2_iald hB dX12_findPlanned_94 sh_kM_left hi3 ?_
    refine m2_aload_n hB dX12_findPlanned_95 rfl ?_
    refine m2_getI hB dX12_findPlanned_96 fl_X12_53 sh_kM rfl ?_
    refine m2_icmp_gt hB dX12_findPlanned_99 (tgt := 111) (by decide) (fun q5 : (μ.1 kM 17) < (μ.1 kM_left (v4).toNatClampNeg) => ?_) (fun q5 : ¬ (μ.1 kM 17) < (μ.1 kM_left (v4).toNatClampNeg) => ?_)
    · replace k := k.1 q5
      exact k
    · replace k := k.2 q5
      refine m2_aload_n hB dX12_findPlanned_102 rfl ?_
      refine m2_getR hB dX12_findPlanned_103 fl_X12_77 sh_kM (c1 := kM_cost) rfl ?_
      refine m2_iload hB dX12_findPlanned_106 rfl ?_
      refine m2_ldc hB kc_X12_244 dX12_findPlanned_108 ?_
      have hi6 := hi3
      refine m2_iast hB dX12_findPlanned_110 sh_kM_cost hi6 ?_
      exact k
set_option maxRecDepth 100000 in
set_option maxHeartbeats 4000000 in
theorem B_X12_findPlanned_111 {κ : Nat → List Value → List Value → m2M → Prop} {D : Nat} {Q : Option Value → m2M → Prop} (h : m2_RL κ cX12_findPlanned RX12 5 (D + 1) (some .boolean) Q) {v1 : Int32} {v2 : Int32} {v3 : Int32} {v4 : Int32} {μ : m2M} (k : (¬ v2 = 3 → κ 140 [.ref kM, .int v1, .int v2, .int v3, .int v4] [] μ) ∧ (v2 = 3 → (vp_in v4 20) ∧ (((μ.1 kM_left (v4).toNatClampNeg) ≤ 0 → κ 140 [.ref kM, .int v1, .int v2, .int v3, .int v4] [] μ) ∧ (¬ (μ.1 kM_left (v4).toNatClampNeg) ≤ 0 → ∃ Q7 : Option Value → m2M → Prop, m2_MT D yX12_priceOf cX12_priceOf 4 (some .int) [.ref kM, .int v1, .int v4] μ Q7 ∧ ∀ (y5 : Int32) (μ6 : m2M), Q7 (some (.int y5)) μ6 → (κ 140 [.ref kM, .int v1, .int v2, .int v3, .int v4] [] (m2_si μ6 kM_cost (v4).toNatClampNeg y5)))))) : κ 111 [.ref kM, .int v1, .int v2, .int v3, .int v4] [] μ := by
  have hB := h.b
  refine m2_iload_n hB dX12_findPlanned_111 rfl ?_
  refine m2_iconst hB dX12_findPlanned_112 (v := 3) (by decide) ?_
  refine m2_icmp_ne hB dX12_findPlanned_113 (tgt := 140) (by decide) (fun q2 : ¬ v2 = 3 => ?_) (fun q2 : v2 = 3 => ?_)
  · replace k := k.1 q2
    exact k
  · replace k := k.2 q2
    refine m2_aload_n hB dX12_findPlanned_116 rfl ?_
    refine m2_getR hB dX12_findPlanned_117 fl_X12_23 sh_kM (c1 := kM_left) rfl ?_
    refine m2_iload hB dX12_findPlanned_120 rfl ?_
    obtain ⟨hi3, k⟩ := k
    refine m2_iald hB dX12_findPlanned_122 sh_kM_left hi3 ?_
    refine m2_if_le hB dX12_findPlanned_123 (tgt := 140) (by decide) (fun q4 : (μ.1 kM_left (v4).toNatClampNeg) ≤ 0 => ?_) (fun q4 : ¬ (μ.1 kM_left (v4).toNatClampNeg) ≤ 0 => ?_)
    · replace k := k.1 q4
      exact k
    · replace k := k.2 q4
      refine m2_aload_n hB dX12_findPlanned_126 rfl ?_
      refine m2_getR hB dX12_findPlanned_127 fl_X12_77 sh_kM (c1 := kM_cost) rfl ?_
      refine m2_iload hB dX12_findPlanned_130 rfl ?_
      refine m2_aload_n hB dX12_findPlanned_132 rfl ?_
      refine m2_iload_n hB dX12_findPlanned_133 rfl ?_
      refine m2_iload hB dX12_findPlanned_134 rfl ?_
      obtain ⟨Q7, hM8, k⟩ := k
      refine m2_invi hB (as := [.int v1, .int v4]) dX12_findPlanned_136 mv_X12_285 rfl sh_kM rfl (Nat.le_of_ble_eq_true rfl) rfl hM8 (fun y5 μ6 hq9 => ?_)
      replace k := k y5 μ6 hq9
      have hi10 := hi3
      refine m2_iast hB dX12_findPlanned_139 sh_kM_cost hi10 ?_
      exact k
set_option maxRecDepth 100000 in
set_option maxHeartbeats 4000000 in
theorem B_X12_findPlanned_140 {κ : Nat → List Value → List Value → m2M → Prop} {D : Nat} {Q : Option Value → m2M → Prop} (h : m2_RL κ cX12_findPlanned RX12 5 D (some .boolean) Q) {v1 : Int32} {v2 : Int32} {v3 : Int32} {v4 : Int32} {μ : m2M} (k : κ 19 [.ref kM, .int v1, .int v2, .int v3, .int (v4 + 1)] [] μ) : κ 140 [.ref kM, .int v1, .int v2, .int v3, .int v4] [] μ := by
  have hB := h.b
  refine m2_iinc hB (ls' := [.ref kM, .int v1, .int v2, .int v3, .int (v4 + 1)]) (v := (v4 + 1)) dX12_findPlanned_140 rfl (by decide) rfl rfl ?_
  refine m2_goto hB dX12_findPlanned_143 (tgt := 19) (by decide) ?_
  exact k
theorem dX12_door_0 : decode cX12_door 0 = .ok (.aload_n 0, 1) := by decide +kernel
theorem dX12_door_1 : decode cX12_door 1 = .ok (.iconst 0, 1) := by decide +kernel
theorem dX12_door_2 : decode cX12_door 2 = .ok (.putfield 143, 3) := by decide +kernel
theorem dX12_door_5 : decode cX12_door 5 = .ok (.aload_n 0, 1) := by decide +kernel
theorem dX12_door_6 : decode cX12_door 6 = .ok (.iload_n 1, 1) := by decide +kernel
theorem dX12_door_7 : decode cX12_door 7 = .ok (.invokevirtual 288, 3) := by decide +kernel
theorem dX12_door_10 : decode cX12_door 10 = .ok (.ifCond .eq 12, 3) := by decide +kernel
theorem dX12_door_13 : decode cX12_door 13 = .ok (.iload_n 2, 1) := by decide +kernel
theorem dX12_door_14 : decode cX12_door 14 = .ok (.iconst 0, 1) := by decide +kernel
theorem dX12_door_15 : decode cX12_door 15 = .ok (.iconst 5, 1) := by decide +kernel
theorem dX12_door_16 : decode cX12_door 16 = .ok (.invokestatic 149, 3) := by decide +kernel
theorem dX12_door_19 : decode cX12_door 19 = .ok (.ifCond .ne 8, 3) := by decide +kernel
theorem dX12_door_22 : decode cX12_door 22 = .ok (.aload_n 0, 1) := by decide +kernel
theorem dX12_door_23 : decode cX12_door 23 = .ok (.invokevirtual 292, 3) := by decide +kernel
theorem dX12_door_26 : decode cX12_door 26 = .ok (.ireturn, 1) := by decide +kernel
theorem dX12_door_27 : decode cX12_door 27 = .ok (.iload_n 2, 1) := by decide +kernel
theorem dX12_door_28 : decode cX12_door 28 = .ok (.ifCond .ne 12, 3) := by decide +kernel
theorem dX12_door_31 : decode cX12_door 31 = .ok (.aload_n 0, 1) := by decide +kernel
theorem dX12_door_32 : decode cX12_door 32 = .ok (.getfield 9, 3) := by decide +kernel
theorem dX12_door_35 : decode cX12_door 35 = .ok (.iload_n 1, 1) := by decide +kernel
theorem dX12_door_36 : decode cX12_door 36 = .ok (.iaload, 1) := by decide +kernel
theorem dX12_door_37 : decode cX12_door 37 = .ok (.goto 73, 3) := by decide +kernel
theorem dX12_door_40 : decode cX12_door 40 = .ok (.iload_n 2, 1) := by decide +kernel
theorem dX12_door_41 : decode cX12_door 41 = .ok (.iconst 1, 1) := by decide +kernel
theorem dX12_door_42 : decode cX12_door 42 = .ok (.if_icmp .ne 12, 3) := by decide +kernel
theorem dX12_door_45 : decode cX12_door 45 = .ok (.aload_n 0, 1) := by decide +kernel
theorem dX12_door_46 : decode cX12_door 46 = .ok (.getfield 13, 3) := by decide +kernel
theorem dX12_door_49 : decode cX12_door 49 = .ok (.iload_n 1, 1) := by decide +kernel
theorem dX12_door_50 : decode cX12_door 50 = .ok (.iaload, 1) := by decide +kernel
theorem dX12_door_51 : decode cX12_door 51 = .ok (.goto 59, 3) := by decide +kernel
theorem dX12_door_54 : decode cX12_door 54 = .ok (.iload_n 2, 1) := by decide +kernel
theorem dX12_door_55 : decode cX12_door 55 = .ok (.iconst 2, 1) := by decide +kernel
theorem dX12_door_56 : decode cX12_door 56 = .ok (.if_icmp .ne 20, 3) := by decide +kernel
theorem dX12_door_59 : decode cX12_door 59 = .ok (.aload_n 0, 1) := by decide +kernel
theorem dX12_door_60 : decode cX12_door 60 = .ok (.getfield 16, 3) := by decide +kernel
theorem dX12_door_63 : decode cX12_door 63 = .ok (.iload_n 1, 1) := by decide +kernel
theorem dX12_door_64 : decode cX12_door 64 = .ok (.baload, 1) := by decide +kernel
theorem dX12_door_65 : decode cX12_door 65 = .ok (.ifCond .eq 7, 3) := by decide +kernel
theorem dX12_door_68 : decode cX12_door 68 = .ok (.iconst 1, 1) := by decide +kernel
theorem dX12_door_69 : decode cX12_door 69 = .ok (.goto 41, 3) := by decide +kernel
theorem dX12_door_72 : decode cX12_door 72 = .ok (.iconst 0, 1) := by decide +kernel
theorem dX12_door_73 : decode cX12_door 73 = .ok (.goto 37, 3) := by decide +kernel
theorem dX12_door_76 : decode cX12_door 76 = .ok (.iload_n 2, 1) := by decide +kernel
theorem dX12_door_77 : decode cX12_door 77 = .ok (.iconst 3, 1) := by decide +kernel
theorem dX12_door_78 : decode cX12_door 78 = .ok (.if_icmp .ne 12, 3) := by decide +kernel
theorem dX12_door_81 : decode cX12_door 81 = .ok (.aload_n 0, 1) := by decide +kernel
theorem dX12_door_82 : decode cX12_door 82 = .ok (.getfield 20, 3) := by decide +kernel
theorem dX12_door_85 : decode cX12_door 85 = .ok (.iload_n 1, 1) := by decide +kernel
theorem dX12_door_86 : decode cX12_door 86 = .ok (.iaload, 1) := by decide +kernel
theorem dX12_door_87 : decode cX12_door 87 = .ok (.goto 23, 3) := by decide +kernel
theorem dX12_door_90 : decode cX12_door 90 = .ok (.iload_n 2, 1) := by decide +kernel
theorem dX12_door_91 : decode cX12_door 91 = .ok (.iconst 4, 1) := by decide +kernel
theorem dX12_door_92 : decode cX12_door 92 = .ok (.if_icmp .ne 12, 3) := by decide +kernel
theorem dX12_door_95 : decode cX12_door 95 = .ok (.aload_n 0, 1) := by decide +kernel
theorem dX12_door_96 : decode cX12_door 96 = .ok (.getfield 23, 3) := by decide +kernel
theorem dX12_door_99 : decode cX12_door 99 = .ok (.iload_n 1, 1) := by decide +kernel
theorem dX12_door_100 : decode cX12_door 100 = .ok (.iaload, 1) := by decide +kernel
theorem dX12_door_101 : decode cX12_door 101 = .ok (.goto 9, 3) := by decide +kernel
theorem dX12_door_104 : decode cX12_door 104 = .ok (.aload_n 0, 1) := by decide +kernel
theorem dX12_door_105 : decode cX12_door 105 = .ok (.getfield 26, 3) := by decide +kernel
theorem dX12_door_108 : decode cX12_door 108 = .ok (.iload_n 1, 1) := by decide +kernel
theorem dX12_door_109 : decode cX12_door 109 = .ok (.iaload, 1) := by decide +kernel
theorem dX12_door_110 : decode cX12_door 110 = .ok (.ireturn, 1) := by decide +kernel
set_option maxRecDepth 100000 in
set_option maxHeartbeats 4000000 in
theorem B_X12_door_0 {κ : Nat → List Value → List Value → m2M → Prop} {D : Nat} {Q : Option Value → m2M → Prop} (h : m2_RL κ cX12_door RX12 3 (D + 1) (some .int) Q) (hD : 1 ≤ D) {x1 : Int32} {x2 : Int32} {μ : m2M} (k : ((fX12_isDoor x1 (m2_si μ kM 22 0)) = 1 → ((fX12_in x2 0 5) = 1 → (¬ x2 = 0 → (¬ x2 = 1 → (¬ x2 = 2 → (¬ x2 = 3 → (¬ x2 = 4 → (vp_in x1 20) ∧ (Q (some (.int (μ.1 kM_atNoon (x1).toNatClampNeg))) (m2_si μ kM 22 0))) ∧ (x2 = 4 → (vp_in x1 20) ∧ (Q (some (.int (μ.1 kM_left (x1).toNatClampNeg))) (m2_si μ kM 22 0)))) ∧ (x2 = 3 → (vp_in x1 20) ∧ (Q (some (.int (μ.1 kM_lets (x1).toNatClampNeg))) (m2_si μ kM 22 0)))) ∧ (x2 = 2 → (vp_in x1 20) ∧ (Q (some (.int (if (μ.1 kM_isOneWay (x1).toNatClampNeg) = 0 then 0 else 1 : Int32))) (m2_si μ kM 22 0)))) ∧ (x2 = 1 → (vp_in x1 20) ∧ (Q (some (.int (μ.1 kM_doorB (x1).toNatClampNeg))) (m2_si μ kM 22 0)))) ∧ (x2 = 0 → (vp_in x1 20) ∧ (Q (some (.int (μ.1 kM_doorA (x1).toNatClampNeg))) (m2_si μ kM 22 0)))) ∧ (¬ (fX12_in x2 0 5) = 1 → ∃ Q29 : Option Value → m2M → Prop, m2_MT D yX12_lost cX12_lost 1 (some .int) [.ref kM] (m2_si μ kM 22 0) Q29 ∧ ∀ (y27 : Int32) (μ28 : m2M), Q29 (some (.int y27)) μ28 → (Q (some (.int y27)) μ28))) ∧ (¬ (fX12_isDoor x1 (m2_si μ kM 22 0)) = 1 → ∃ Q34 : Option Value → m2M → Prop, m2_MT D yX12_lost cX12_lost 1 (some .int) [.ref kM] (m2_si μ kM 22 0) Q34 ∧ ∀ (y32 : Int32) (μ33 : m2M), Q34 (some (.int y32)) μ33 → (Q (some (.int y32)) μ33))) : κ 0 [.ref kM, .int x1, .int x2] [] μ := by
  have hB := h.b
  refine m2_aload_n hB dX12_door_0 rfl ?_
  refine m2_iconst hB dX12_door_1 (v := 0) (by decide) ?_
  refine m2_putI hB dX12_door_2 fl_X12_143 sh_kM rfl ?_
  refine m2_aload_n hB dX12_door_5 rfl ?_
  refine m2_iload_n hB dX12_door_6 rfl ?_
  refine m2_invz hB (as := [.int x1]) dX12_door_7 mv_X12_288 rfl sh_kM rfl (Nat.le_of_ble_eq_true rfl) rfl (P_X12_isDoor (by omega) (x1) _ ) (fun y1 μ2 hq3 => ?_)
  obtain ⟨⟨⟩, hq3⟩ := hq3
  subst μ2
  show κ 10 [.ref kM, .int x1, .int x2] [.int (if (fX12_isDoor x1 (m2_si μ kM 22 0)) = 1 then 1 else 0 : Int32)] (m2_si μ kM 22 0)
  by_cases q4 : (fX12_isDoor x1 (m2_si μ kM 22 0)) = 1
  · rw [if_pos q4]
    replace k := k.1 q4
    refine m2_if_eq hB dX12_door_10 (tgt := 22) (by decide) (fun q => absurd q (by decide)) (fun _ => ?_)
    refine m2_iload_n hB dX12_door_13 rfl ?_
    refine m2_iconst hB dX12_door_14 (v := 0) (by decide) ?_
    refine m2_iconst hB dX12_door_15 (v := 5) (by decide) ?_
    refine m2_invSz hB (as := [.int x2, .int 0, .int 5]) dX12_door_16 ms_X12_149 rfl (Nat.le_of_ble_eq_true rfl) rfl (P_X12_in (by omega) (x2) (0) (5) _ ) (fun y5 μ6 hq7 => ?_)
    obtain ⟨⟨⟩, hq7⟩ := hq7
    subst μ6
    show κ 19 [.ref kM, .int x1, .int x2] [.int (if (fX12_in x2 0 5) = 1 then 1 else 0 : Int32)] (m2_si μ kM 22 0)
    by_cases q8 : (fX12_in x2 0 5) = 1
    · rw [if_pos q8]
      replace k := k.1 q8
      refine m2_if_ne hB dX12_door_19 (tgt := 27) (by decide) (fun _ => ?_) (fun q => absurd q (by decide))
      refine m2_iload_n hB dX12_door_27 rfl ?_
      refine m2_if_ne hB dX12_door_28 (tgt := 40) (by decide) (fun q10 : ¬ x2 = 0 => ?_) (fun q10 : x2 = 0 => ?_)
      · replace k := k.1 q10
        refine m2_iload_n hB dX12_door_40 rfl ?_
        refine m2_iconst hB dX12_door_41 (v := 1) (by decide) ?_
        refine m2_icmp_ne hB dX12_door_42 (tgt := 54) (by decide) (fun q12 : ¬ x2 = 1 => ?_) (fun q12 : x2 = 1 => ?_)
        · replace k := k.1 q12
          refine m2_iload_n hB dX12_door_54 rfl ?_
          refine m2_iconst hB dX12_door_55 (v := 2) (by decide) ?_
          refine m2_icmp_ne hB dX12_door_56 (tgt := 76) (by decide) (fun q14 : ¬ x2 = 2 => ?_) (fun q14 : x2 = 2 => ?_)
          · replace k := k.1 q14
            refine m2_iload_n hB dX12_door_76 rfl ?_
            refine m2_iconst hB dX12_door_77 (v := 3) (by decide) ?_
            refine m2_icmp_ne hB dX12_door_78 (tgt := 90) (by decide) (fun q16 : ¬ x2 = 3 => ?_) (fun q16 : x2 = 3 => ?_)
            · replace k := k.1 q16
              refine m2_iload_n hB dX12_door_90 rfl ?_
              refine m2_iconst hB dX12_door_91 (v := 4) (by decide) ?_
              refine m2_icmp_ne hB dX12_door_92 (tgt := 104) (by decide) (fun q18 : ¬ x2 = 4 => ?_) (fun q18 : x2 = 4 => ?_)
              · replace k := k.1 q18
                refine m2_aload_n hB dX12_door_104 rfl ?_
                refine m2_getR hB dX12_door_105 fl_X12_26 sh_kM (c1 := kM_atNoon) rfl ?_
                refine m2_iload_n hB dX12_door_108 rfl ?_
                obtain ⟨hi19, k⟩ := k
                refine m2_iald hB dX12_door_109 sh_kM_atNoon hi19 ?_
                exact m2_iret h dX12_door_110 k
              · replace k := k.2 q18
                refine m2_aload_n hB dX12_door_95 rfl ?_
                refine m2_getR hB dX12_door_96 fl_X12_23 sh_kM (c1 := kM_left) rfl ?_
                refine m2_iload_n hB dX12_door_99 rfl ?_
                obtain ⟨hi20, k⟩ := k
                refine m2_iald hB dX12_door_100 sh_kM_left hi20 ?_
                refine m2_goto hB dX12_door_101 (tgt := 110) (by decide) ?_
                exact m2_iret h dX12_door_110 k
            · replace k := k.2 q16
              refine m2_aload_n hB dX12_door_81 rfl ?_
              refine m2_getR hB dX12_door_82 fl_X12_20 sh_kM (c1 := kM_lets) rfl ?_
              refine m2_iload_n hB dX12_door_85 rfl ?_
              obtain ⟨hi21, k⟩ := k
              refine m2_iald hB dX12_door_86 sh_kM_lets hi21 ?_
              refine m2_goto hB dX12_door_87 (tgt := 110) (by decide) ?_
              exact m2_iret h dX12_door_110 k
          · replace k := k.2 q14
            refine m2_aload_n hB dX12_door_59 rfl ?_
            refine m2_getR hB dX12_door_60 fl_X12_16 sh_kM (c1 := kM_isOneWay) rfl ?_
            refine m2_iload_n hB dX12_door_63 rfl ?_
            obtain ⟨hi22, k⟩ := k
            refine m2_zald hB dX12_door_64 sh_kM_isOneWay hi22 ?_
            have G24 : κ 110 [.ref kM, .int x1, .int x2] [.int (if (μ.1 kM_isOneWay (x1).toNatClampNeg) = 0 then 0 else 1 : Int32)] (m2_si μ kM 22 0) := by
              exact m2_iret h dX12_door_110 k
            refine m2_if_eq hB dX12_door_65 (tgt := 72) (by decide) (fun q23 : (μ.1 kM_isOneWay (x1).toNatClampNeg) = 0 => ?_) (fun q23 : ¬ (μ.1 kM_isOneWay (x1).toNatClampNeg) = 0 => ?_)
            · rw [if_pos q23] at G24
              refine m2_iconst hB dX12_door_72 (v := 0) (by decide) ?_
              refine m2_goto hB dX12_door_73 (tgt := 110) (by decide) ?_
              exact G24
            · rw [if_neg q23] at G24
              refine m2_iconst hB dX12_door_68 (v := 1) (by decide) ?_
              refine m2_goto hB dX12_door_69 (tgt := 110) (by decide) ?_
              exact G24
        · replace k := k.2 q12
          refine m2_aload_n hB dX12_door_45 rfl ?_
          refine m2_getR hB dX12_door_46 fl_X12_13 sh_kM (c1 := kM_doorB) rfl ?_
          refine m2_iload_n hB dX12_door_49 rfl ?_
          obtain ⟨hi25, k⟩ := k
          refine m2_iald hB dX12_door_50 sh_kM_doorB hi25 ?_
          refine m2_goto hB dX12_door_51 (tgt := 110) (by decide) ?_
          exact m2_iret h dX12_door_110 k
      · replace k := k.2 q10
        refine m2_aload_n hB dX12_door_31 rfl ?_
        refine m2_getR hB dX12_door_32 fl_X12_9 sh_kM (c1 := kM_doorA) rfl ?_
        refine m2_iload_n hB dX12_door_35 rfl ?_
        obtain ⟨hi26, k⟩ := k
        refine m2_iald hB dX12_door_36 sh_kM_doorA hi26 ?_
        refine m2_goto hB dX12_door_37 (tgt := 110) (by decide) ?_
        exact m2_iret h dX12_door_110 k
    · rw [if_neg q8]
      replace k := k.2 q8
      refine m2_if_ne hB dX12_door_19 (tgt := 27) (by decide) (fun q => absurd q (by decide)) (fun _ => ?_)
      refine m2_aload_n hB dX12_door_22 rfl ?_
      obtain ⟨Q29, hM30, k⟩ := k
      refine m2_invi hB (as := []) dX12_door_23 mv_X12_292 rfl sh_kM rfl (Nat.le_of_ble_eq_true rfl) rfl hM30 (fun y27 μ28 hq31 => ?_)
      replace k := k y27 μ28 hq31
      exact m2_iret h dX12_door_26 k
  · rw [if_neg q4]
    replace k := k.2 q4
    refine m2_if_eq hB dX12_door_10 (tgt := 22) (by decide) (fun _ => ?_) (fun q => absurd q (by decide))
    refine m2_aload_n hB dX12_door_22 rfl ?_
    obtain ⟨Q34, hM35, k⟩ := k
    refine m2_invi hB (as := []) dX12_door_23 mv_X12_292 rfl sh_kM rfl (Nat.le_of_ble_eq_true rfl) rfl hM35 (fun y32 μ33 hq36 => ?_)
    replace k := k y32 μ33 hq36
    exact m2_iret h dX12_door_26 k
theorem dX12_of_0 : decode cX12_of 0 = .ok (.aload_n 0, 1) := by decide +kernel
theorem dX12_of_1 : decode cX12_of 1 = .ok (.iconst 0, 1) := by decide +kernel
theorem dX12_of_2 : decode cX12_of 2 = .ok (.putfield 143, 3) := by decide +kernel
theorem dX12_of_5 : decode cX12_of 5 = .ok (.aload_n 0, 1) := by decide +kernel
theorem dX12_of_6 : decode cX12_of 6 = .ok (.iload_n 1, 1) := by decide +kernel
theorem dX12_of_7 : decode cX12_of 7 = .ok (.invokevirtual 295, 3) := by decide +kernel
theorem dX12_of_10 : decode cX12_of 10 = .ok (.ifCond .eq 13, 3) := by decide +kernel
theorem dX12_of_13 : decode cX12_of 13 = .ok (.iload_n 2, 1) := by decide +kernel
theorem dX12_of_14 : decode cX12_of 14 = .ok (.iconst 0, 1) := by decide +kernel
theorem dX12_of_15 : decode cX12_of 15 = .ok (.bipush 7, 2) := by decide +kernel
theorem dX12_of_17 : decode cX12_of 17 = .ok (.invokestatic 149, 3) := by decide +kernel
theorem dX12_of_20 : decode cX12_of 20 = .ok (.ifCond .ne 8, 3) := by decide +kernel
theorem dX12_of_23 : decode cX12_of 23 = .ok (.aload_n 0, 1) := by decide +kernel
theorem dX12_of_24 : decode cX12_of 24 = .ok (.invokevirtual 292, 3) := by decide +kernel
theorem dX12_of_27 : decode cX12_of 27 = .ok (.ireturn, 1) := by decide +kernel
theorem dX12_of_28 : decode cX12_of 28 = .ok (.iload_n 2, 1) := by decide +kernel
theorem dX12_of_29 : decode cX12_of 29 = .ok (.tableswitch 115 0 6 #[43, 50, 65, 72, 79, 94, 109], 43) := by decide +kernel
theorem dX12_of_72 : decode cX12_of 72 = .ok (.aload_n 0, 1) := by decide +kernel
theorem dX12_of_73 : decode cX12_of 73 = .ok (.getfield 29, 3) := by decide +kernel
theorem dX12_of_76 : decode cX12_of 76 = .ok (.iload_n 1, 1) := by decide +kernel
theorem dX12_of_77 : decode cX12_of 77 = .ok (.iaload, 1) := by decide +kernel
theorem dX12_of_78 : decode cX12_of 78 = .ok (.ireturn, 1) := by decide +kernel
theorem dX12_of_79 : decode cX12_of 79 = .ok (.aload_n 0, 1) := by decide +kernel
theorem dX12_of_80 : decode cX12_of 80 = .ok (.getfield 35, 3) := by decide +kernel
theorem dX12_of_83 : decode cX12_of 83 = .ok (.iload_n 1, 1) := by decide +kernel
theorem dX12_of_84 : decode cX12_of 84 = .ok (.baload, 1) := by decide +kernel
theorem dX12_of_85 : decode cX12_of 85 = .ok (.ifCond .eq 7, 3) := by decide +kernel
theorem dX12_of_88 : decode cX12_of 88 = .ok (.iconst 1, 1) := by decide +kernel
theorem dX12_of_89 : decode cX12_of 89 = .ok (.goto 4, 3) := by decide +kernel
theorem dX12_of_92 : decode cX12_of 92 = .ok (.iconst 0, 1) := by decide +kernel
theorem dX12_of_93 : decode cX12_of 93 = .ok (.ireturn, 1) := by decide +kernel
theorem dX12_of_94 : decode cX12_of 94 = .ok (.aload_n 0, 1) := by decide +kernel
theorem dX12_of_95 : decode cX12_of 95 = .ok (.getfield 38, 3) := by decide +kernel
theorem dX12_of_98 : decode cX12_of 98 = .ok (.iload_n 1, 1) := by decide +kernel
theorem dX12_of_99 : decode cX12_of 99 = .ok (.iaload, 1) := by decide +kernel
theorem dX12_of_100 : decode cX12_of 100 = .ok (.ireturn, 1) := by decide +kernel
theorem dX12_of_101 : decode cX12_of 101 = .ok (.aload_n 0, 1) := by decide +kernel
theorem dX12_of_102 : decode cX12_of 102 = .ok (.getfield 41, 3) := by decide +kernel
theorem dX12_of_105 : decode cX12_of 105 = .ok (.iload_n 1, 1) := by decide +kernel
theorem dX12_of_106 : decode cX12_of 106 = .ok (.iaload, 1) := by decide +kernel
theorem dX12_of_107 : decode cX12_of 107 = .ok (.ireturn, 1) := by decide +kernel
theorem dX12_of_108 : decode cX12_of 108 = .ok (.aload_n 0, 1) := by decide +kernel
theorem dX12_of_109 : decode cX12_of 109 = .ok (.getfield 44, 3) := by decide +kernel
theorem dX12_of_112 : decode cX12_of 112 = .ok (.iload_n 1, 1) := by decide +kernel
theorem dX12_of_113 : decode cX12_of 113 = .ok (.baload, 1) := by decide +kernel
theorem dX12_of_114 : decode cX12_of 114 = .ok (.ifCond .eq 7, 3) := by decide +kernel
theorem dX12_of_117 : decode cX12_of 117 = .ok (.iconst 1, 1) := by decide +kernel
theorem dX12_of_118 : decode cX12_of 118 = .ok (.goto 4, 3) := by decide +kernel
theorem dX12_of_121 : decode cX12_of 121 = .ok (.iconst 0, 1) := by decide +kernel
theorem dX12_of_122 : decode cX12_of 122 = .ok (.ireturn, 1) := by decide +kernel
theorem dX12_of_123 : decode cX12_of 123 = .ok (.aload_n 0, 1) := by decide +kernel
theorem dX12_of_124 : decode cX12_of 124 = .ok (.getfield 50, 3) := by decide +kernel
theorem dX12_of_127 : decode cX12_of 127 = .ok (.iload_n 1, 1) := by decide +kernel
theorem dX12_of_128 : decode cX12_of 128 = .ok (.baload, 1) := by decide +kernel
theorem dX12_of_129 : decode cX12_of 129 = .ok (.ifCond .eq 7, 3) := by decide +kernel
theorem dX12_of_132 : decode cX12_of 132 = .ok (.iconst 1, 1) := by decide +kernel
theorem dX12_of_133 : decode cX12_of 133 = .ok (.goto 4, 3) := by decide +kernel
theorem dX12_of_136 : decode cX12_of 136 = .ok (.iconst 0, 1) := by decide +kernel
theorem dX12_of_137 : decode cX12_of 137 = .ok (.ireturn, 1) := by decide +kernel
theorem dX12_of_138 : decode cX12_of 138 = .ok (.aload_n 0, 1) := by decide +kernel
theorem dX12_of_139 : decode cX12_of 139 = .ok (.iload_n 1, 1) := by decide +kernel
theorem dX12_of_140 : decode cX12_of 140 = .ok (.invokevirtual 241, 3) := by decide +kernel
theorem dX12_of_143 : decode cX12_of 143 = .ok (.ireturn, 1) := by decide +kernel
theorem dX12_of_144 : decode cX12_of 144 = .ok (.aload_n 0, 1) := by decide +kernel
theorem dX12_of_145 : decode cX12_of 145 = .ok (.getfield 32, 3) := by decide +kernel
theorem dX12_of_148 : decode cX12_of 148 = .ok (.iload_n 1, 1) := by decide +kernel
theorem dX12_of_149 : decode cX12_of 149 = .ok (.iaload, 1) := by decide +kernel
theorem dX12_of_150 : decode cX12_of 150 = .ok (.ireturn, 1) := by decide +kernel
set_option maxRecDepth 100000 in
set_option maxHeartbeats 4000000 in
theorem B_X12_of_0 {κ : Nat → List Value → List Value → m2M → Prop} {D : Nat} {Q : Option Value → m2M → Prop} (h : m2_RL κ cX12_of RX12 3 (D + 1) (some .int) Q) (hD : 1 ≤ D) {x1 : Int32} {x2 : Int32} {μ : m2M} (k : ((fX12_isOne x1 (m2_si μ kM 22 0)) = 1 → ((fX12_in x2 0 7) = 1 → (x2 = 0 → (vp_in x1 8) ∧ (Q (some (.int (μ.1 kM_where (x1).toNatClampNeg))) (m2_si μ kM 22 0))) ∧ (¬ x2 = 0 → (x2 = 1 → (vp_in x1 8) ∧ (Q (some (.int (if (μ.1 kM_isStranger (x1).toNatClampNeg) = 0 then 0 else 1 : Int32))) (m2_si μ kM 22 0))) ∧ (¬ x2 = 1 → (x2 = 2 → (vp_in x1 8) ∧ (Q (some (.int (μ.1 kM_worth (x1).toNatClampNeg))) (m2_si μ kM 22 0))) ∧ (¬ x2 = 2 → (x2 = 3 → (vp_in x1 8) ∧ (Q (some (.int (μ.1 kM_errand (x1).toNatClampNeg))) (m2_si μ kM 22 0))) ∧ (¬ x2 = 3 → (x2 = 4 → (vp_in x1 8) ∧ (Q (some (.int (if (μ.1 kM_comesBack (x1).toNatClampNeg) = 0 then 0 else 1 : Int32))) (m2_si μ kM 22 0))) ∧ (¬ x2 = 4 → (x2 = 5 → (vp_in x1 8) ∧ (Q (some (.int (if (μ.1 kM_isDone (x1).toNatClampNeg) = 0 then 0 else 1 : Int32))) (m2_si μ kM 22 0))) ∧ (¬ x2 = 5 → (x2 = 6 → (vp_in x1 8) ∧ (Q (some (.int (fX12_nextOf x1 (m2_si μ kM 22 0)))) (m2_si μ kM 22 0))) ∧ (¬ x2 = 6 → (vp_in x1 8) ∧ (Q (some (.int (μ.1 kM_home (x1).toNatClampNeg))) (m2_si μ kM 22 0)))))))))) ∧ (¬ (fX12_in x2 0 7) = 1 → ∃ Q35 : Option Value → m2M → Prop, m2_MT D yX12_lost cX12_lost 1 (some .int) [.ref kM] (m2_si μ kM 22 0) Q35 ∧ ∀ (y33 : Int32) (μ34 : m2M), Q35 (some (.int y33)) μ34 → (Q (some (.int y33)) μ34))) ∧ (¬ (fX12_isOne x1 (m2_si μ kM 22 0)) = 1 → ∃ Q40 : Option Value → m2M → Prop, m2_MT D yX12_lost cX12_lost 1 (some .int) [.ref kM] (m2_si μ kM 22 0) Q40 ∧ ∀ (y38 : Int32) (μ39 : m2M), Q40 (some (.int y38)) μ39 → (Q (some (.int y38)) μ39))) : κ 0 [.ref kM, .int x1, .int x2] [] μ := by
  have hB := h.b
  refine m2_aload_n hB dX12_of_0 rfl ?_
  refine m2_iconst hB dX12_of_1 (v := 0) (by decide) ?_
  refine m2_putI hB dX12_of_2 fl_X12_143 sh_kM rfl ?_
  refine m2_aload_n hB dX12_of_5 rfl ?_
  refine m2_iload_n hB dX12_of_6 rfl ?_
  refine m2_invz hB (as := [.int x1]) dX12_of_7 mv_X12_295 rfl sh_kM rfl (Nat.le_of_ble_eq_true rfl) rfl (P_X12_isOne (by omega) (x1) _ ) (fun y1 μ2 hq3 => ?_)
  obtain ⟨⟨⟩, hq3⟩ := hq3
  subst μ2
  show κ 10 [.ref kM, .int x1, .int x2] [.int (if (fX12_isOne x1 (m2_si μ kM 22 0)) = 1 then 1 else 0 : Int32)] (m2_si μ kM 22 0)
  by_cases q4 : (fX12_isOne x1 (m2_si μ kM 22 0)) = 1
  · rw [if_pos q4]
    replace k := k.1 q4
    refine m2_if_eq hB dX12_of_10 (tgt := 23) (by decide) (fun q => absurd q (by decide)) (fun _ => ?_)
    refine m2_iload_n hB dX12_of_13 rfl ?_
    refine m2_iconst hB dX12_of_14 (v := 0) (by decide) ?_
    refine m2_bipush hB dX12_of_15 (v := 7) (by decide) ?_
    refine m2_invSz hB (as := [.int x2, .int 0, .int 7]) dX12_of_17 ms_X12_149 rfl (Nat.le_of_ble_eq_true rfl) rfl (P_X12_in (by omega) (x2) (0) (7) _ ) (fun y5 μ6 hq7 => ?_)
    obtain ⟨⟨⟩, hq7⟩ := hq7
    subst μ6
    show κ 20 [.ref kM, .int x1, .int x2] [.int (if (fX12_in x2 0 7) = 1 then 1 else 0 : Int32)] (m2_si μ kM 22 0)
    by_cases q8 : (fX12_in x2 0 7) = 1
    · rw [if_pos q8]
      replace k := k.1 q8
      refine m2_if_ne hB dX12_of_20 (tgt := 28) (by decide) (fun _ => ?_) (fun q => absurd q (by decide))
      refine m2_iload_n hB dX12_of_28 rfl ?_
      by_cases q9 : x2 = 0
      · replace k := k.1 q9
        refine m2_tableIn hB dX12_of_29 (off := 43) (tgt := 72) (by rw [q9]; decide) (by rw [q9]; decide) (by rw [q9]; decide) (by decide) ?_
        refine m2_aload_n hB dX12_of_72 rfl ?_
        refine m2_getR hB dX12_of_73 fl_X12_29 sh_kM (c1 := kM_where) rfl ?_
        refine m2_iload_n hB dX12_of_76 rfl ?_
        obtain ⟨hi10, k⟩ := k
        refine m2_iald hB dX12_of_77 sh_kM_where hi10 ?_
        exact m2_iret h dX12_of_78 k
      replace k := k.2 q9
      by_cases q11 : x2 = 1
      · replace k := k.1 q11
        refine m2_tableIn hB dX12_of_29 (off := 50) (tgt := 79) (by rw [q11]; decide) (by rw [q11]; decide) (by rw [q11]; decide) (by decide) ?_
        refine m2_aload_n hB dX12_of_79 rfl ?_
        refine m2_getR hB dX12_of_80 fl_X12_35 sh_kM (c1 := kM_isStranger) rfl ?_
        refine m2_iload_n hB dX12_of_83 rfl ?_
        obtain ⟨hi12, k⟩ := k
        refine m2_zald hB dX12_of_84 sh_kM_isStranger hi12 ?_
        have G14 : κ 93 [.ref kM, .int x1, .int x2] [.int (if (μ.1 kM_isStranger (x1).toNatClampNeg) = 0 then 0 else 1 : Int32)] (m2_si μ kM 22 0) := by
          exact m2_iret h dX12_of_93 k
        refine m2_if_eq hB dX12_of_85 (tgt := 92) (by decide) (fun q13 : (μ.1 kM_isStranger (x1).toNatClampNeg) = 0 => ?_) (fun q13 : ¬ (μ.1 kM_isStranger (x1).toNatClampNeg) = 0 => ?_)
        · rw [if_pos q13] at G14
          refine m2_iconst hB dX12_of_92 (v := 0) (by decide) ?_
          exact G14
        · rw [if_neg q13] at G14
          refine m2_iconst hB dX12_of_88 (v := 1) (by decide) ?_
          refine m2_goto hB dX12_of_89 (tgt := 93) (by decide) ?_
          exact G14
      replace k := k.2 q11
      by_cases q15 : x2 = 2
      · replace k := k.1 q15
        refine m2_tableIn hB dX12_of_29 (off := 65) (tgt := 94) (by rw [q15]; decide) (by rw [q15]; decide) (by rw [q15]; decide) (by decide) ?_
        refine m2_aload_n hB dX12_of_94 rfl ?_
        refine m2_getR hB dX12_of_95 fl_X12_38 sh_kM (c1 := kM_worth) rfl ?_
        refine m2_iload_n hB dX12_of_98 rfl ?_
        obtain ⟨hi16, k⟩ := k
        refine m2_iald hB dX12_of_99 sh_kM_worth hi16 ?_
        exact m2_iret h dX12_of_100 k
      replace k := k.2 q15
      by_cases q17 : x2 = 3
      · replace k := k.1 q17
        refine m2_tableIn hB dX12_of_29 (off := 72) (tgt := 101) (by rw [q17]; decide) (by rw [q17]; decide) (by rw [q17]; decide) (by decide) ?_
        refine m2_aload_n hB dX12_of_101 rfl ?_
        refine m2_getR hB dX12_of_102 fl_X12_41 sh_kM (c1 := kM_errand) rfl ?_
        refine m2_iload_n hB dX12_of_105 rfl ?_
        obtain ⟨hi18, k⟩ := k
        refine m2_iald hB dX12_of_106 sh_kM_errand hi18 ?_
        exact m2_iret h dX12_of_107 k
      replace k := k.2 q17
      by_cases q19 : x2 = 4
      · replace k := k.1 q19
        refine m2_tableIn hB dX12_of_29 (off := 79) (tgt := 108) (by rw [q19]; decide) (by rw [q19]; decide) (by rw [q19]; decide) (by decide) ?_
        refine m2_aload_n hB dX12_of_108 rfl ?_
        refine m2_getR hB dX12_of_109 fl_X12_44 sh_kM (c1 := kM_comesBack) rfl ?_
        refine m2_iload_n hB dX12_of_112 rfl ?_
        obtain ⟨hi20, k⟩ := k
        refine m2_zald hB dX12_of_113 sh_kM_comesBack hi20 ?_
        have G22 : κ 122 [.ref kM, .int x1, .int x2] [.int (if (μ.1 kM_comesBack (x1).toNatClampNeg) = 0 then 0 else 1 : Int32)] (m2_si μ kM 22 0) := by
          exact m2_iret h dX12_of_122 k
        refine m2_if_eq hB dX12_of_114 (tgt := 121) (by decide) (fun q21 : (μ.1 kM_comesBack (x1).toNatClampNeg) = 0 => ?_) (fun q21 : ¬ (μ.1 kM_comesBack (x1).toNatClampNeg) = 0 => ?_)
        · rw [if_pos q21] at G22
          refine m2_iconst hB dX12_of_121 (v := 0) (by decide) ?_
          exact G22
        · rw [if_neg q21] at G22
          refine m2_iconst hB dX12_of_117 (v := 1) (by decide) ?_
          refine m2_goto hB dX12_of_118 (tgt := 122) (by decide) ?_
          exact G22
      replace k := k.2 q19
      by_cases q23 : x2 = 5
      · replace k := k.1 q23
        refine m2_tableIn hB dX12_of_29 (off := 94) (tgt := 123) (by rw [q23]; decide) (by rw [q23]; decide) (by rw [q23]; decide) (by decide) ?_
        refine m2_aload_n hB dX12_of_123 rfl ?_
        refine m2_getR hB dX12_of_124 fl_X12_50 sh_kM (c1 := kM_isDone) rfl ?_
        refine m2_iload_n hB dX12_of_127 rfl ?_
        obtain ⟨hi24, k⟩ := k
        refine m2_zald hB dX12_of_128 sh_kM_isDone hi24 ?_
        have G26 : κ 137 [.ref kM, .int x1, .int x2] [.int (if (μ.1 kM_isDone (x1).toNatClampNeg) = 0 then 0 else 1 : Int32)] (m2_si μ kM 22 0) := by
          exact m2_iret h dX12_of_137 k
        refine m2_if_eq hB dX12_of_129 (tgt := 136) (by decide) (fun q25 : (μ.1 kM_isDone (x1).toNatClampNeg) = 0 => ?_) (fun q25 : ¬ (μ.1 kM_isDone (x1).toNatClampNeg) = 0 => ?_)
        · rw [if_pos q25] at G26
          refine m2_iconst hB dX12_of_136 (v := 0) (by decide) ?_
          exact G26
        · rw [if_neg q25] at G26
          refine m2_iconst hB dX12_of_132 (v := 1) (by decide) ?_
          refine m2_goto hB dX12_of_133 (tgt := 137) (by decide) ?_
          exact G26
      replace k := k.2 q23
      by_cases q27 : x2 = 6
      · replace k := k.1 q27
        refine m2_tableIn hB dX12_of_29 (off := 109) (tgt := 138) (by rw [q27]; decide) (by rw [q27]; decide) (by rw [q27]; decide) (by decide) ?_
        refine m2_aload_n hB dX12_of_138 rfl ?_
        refine m2_iload_n hB dX12_of_139 rfl ?_
        obtain ⟨hs28, k⟩ := k
        refine m2_invi hB (as := [.int x1]) dX12_of_140 mv_X12_241 rfl sh_kM rfl (Nat.le_of_ble_eq_true rfl) rfl (P_X12_nextOf (by omega) (x1) _ hs28) (fun y29 μ30 hq31 => ?_)
        obtain ⟨⟨⟩, hq31⟩ := hq31
        subst μ30
        exact m2_iret h dX12_of_143 k
      replace k := k.2 q27
      refine m2_tableOut hB dX12_of_29 (tgt := 144) (by have z0 := lv_neT q9 (show (0 : Int32).toInt = 0 by decide); have z1 := lv_neT q11 (show (1 : Int32).toInt = 1 by decide); have z2 := lv_neT q15 (show (2 : Int32).toInt = 2 by decide); have z3 := lv_neT q17 (show (3 : Int32).toInt = 3 by decide); have z4 := lv_neT q19 (show (4 : Int32).toInt = 4 by decide); have z5 := lv_neT q23 (show (5 : Int32).toInt = 5 by decide); have z6 := lv_neT q27 (show (6 : Int32).toInt = 6 by decide); omega) (by decide) ?_
      refine m2_aload_n hB dX12_of_144 rfl ?_
      refine m2_getR hB dX12_of_145 fl_X12_32 sh_kM (c1 := kM_home) rfl ?_
      refine m2_iload_n hB dX12_of_148 rfl ?_
      obtain ⟨hi32, k⟩ := k
      refine m2_iald hB dX12_of_149 sh_kM_home hi32 ?_
      exact m2_iret h dX12_of_150 k
    · rw [if_neg q8]
      replace k := k.2 q8
      refine m2_if_ne hB dX12_of_20 (tgt := 28) (by decide) (fun q => absurd q (by decide)) (fun _ => ?_)
      refine m2_aload_n hB dX12_of_23 rfl ?_
      obtain ⟨Q35, hM36, k⟩ := k
      refine m2_invi hB (as := []) dX12_of_24 mv_X12_292 rfl sh_kM rfl (Nat.le_of_ble_eq_true rfl) rfl hM36 (fun y33 μ34 hq37 => ?_)
      replace k := k y33 μ34 hq37
      exact m2_iret h dX12_of_27 k
  · rw [if_neg q4]
    replace k := k.2 q4
    refine m2_if_eq hB dX12_of_10 (tgt := 23) (by decide) (fun _ => ?_) (fun q => absurd q (by decide))
    refine m2_aload_n hB dX12_of_23 rfl ?_
    obtain ⟨Q40, hM41, k⟩ := k
    refine m2_invi hB (as := []) dX12_of_24 mv_X12_292 rfl sh_kM rfl (Nat.le_of_ble_eq_true rfl) rfl hM41 (fun y38 μ39 hq42 => ?_)
    replace k := k y38 μ39 hq42
    exact m2_iret h dX12_of_27 k
theorem dX12_sheet_0 : decode cX12_sheet 0 = .ok (.aload_n 0, 1) := by decide +kernel
theorem dX12_sheet_1 : decode cX12_sheet 1 = .ok (.iconst 0, 1) := by decide +kernel
theorem dX12_sheet_2 : decode cX12_sheet 2 = .ok (.putfield 143, 3) := by decide +kernel
theorem dX12_sheet_5 : decode cX12_sheet 5 = .ok (.iload_n 1, 1) := by decide +kernel
theorem dX12_sheet_6 : decode cX12_sheet 6 = .ok (.iconst 0, 1) := by decide +kernel
theorem dX12_sheet_7 : decode cX12_sheet 7 = .ok (.iconst 3, 1) := by decide +kernel
theorem dX12_sheet_8 : decode cX12_sheet 8 = .ok (.invokestatic 149, 3) := by decide +kernel
theorem dX12_sheet_11 : decode cX12_sheet 11 = .ok (.ifCond .eq 9, 3) := by decide +kernel
theorem dX12_sheet_14 : decode cX12_sheet 14 = .ok (.iload_n 2, 1) := by decide +kernel
theorem dX12_sheet_15 : decode cX12_sheet 15 = .ok (.bipush 20, 2) := by decide +kernel
theorem dX12_sheet_17 : decode cX12_sheet 17 = .ok (.if_icmp .le 5, 3) := by decide +kernel
theorem dX12_sheet_20 : decode cX12_sheet 20 = .ok (.iconst (-1), 1) := by decide +kernel
theorem dX12_sheet_21 : decode cX12_sheet 21 = .ok (.ireturn, 1) := by decide +kernel
theorem dX12_sheet_22 : decode cX12_sheet 22 = .ok (.iload_n 1, 1) := by decide +kernel
theorem dX12_sheet_23 : decode cX12_sheet 23 = .ok (.iconst 3, 1) := by decide +kernel
theorem dX12_sheet_24 : decode cX12_sheet 24 = .ok (.if_icmp .ge 10, 3) := by decide +kernel
theorem dX12_sheet_27 : decode cX12_sheet 27 = .ok (.iload_n 2, 1) := by decide +kernel
theorem dX12_sheet_28 : decode cX12_sheet 28 = .ok (.ifCond .ge 6, 3) := by decide +kernel
theorem dX12_sheet_31 : decode cX12_sheet 31 = .ok (.bipush (-2), 2) := by decide +kernel
theorem dX12_sheet_33 : decode cX12_sheet 33 = .ok (.ireturn, 1) := by decide +kernel
theorem dX12_sheet_34 : decode cX12_sheet 34 = .ok (.iconst 0, 1) := by decide +kernel
theorem dX12_sheet_35 : decode cX12_sheet 35 = .ok (.istore 5, 2) := by decide +kernel
theorem dX12_sheet_37 : decode cX12_sheet 37 = .ok (.iload_n 3, 1) := by decide +kernel
theorem dX12_sheet_38 : decode cX12_sheet 38 = .ok (.istore 6, 2) := by decide +kernel
theorem dX12_sheet_40 : decode cX12_sheet 40 = .ok (.iconst 0, 1) := by decide +kernel
theorem dX12_sheet_41 : decode cX12_sheet 41 = .ok (.istore 7, 2) := by decide +kernel
theorem dX12_sheet_43 : decode cX12_sheet 43 = .ok (.iload 7, 2) := by decide +kernel
theorem dX12_sheet_45 : decode cX12_sheet 45 = .ok (.aload_n 0, 1) := by decide +kernel
theorem dX12_sheet_46 : decode cX12_sheet 46 = .ok (.getfield 153, 3) := by decide +kernel
theorem dX12_sheet_49 : decode cX12_sheet 49 = .ok (.if_icmp .ge 92, 3) := by decide +kernel
theorem dX12_sheet_52 : decode cX12_sheet 52 = .ok (.iload_n 1, 1) := by decide +kernel
theorem dX12_sheet_53 : decode cX12_sheet 53 = .ok (.ifCond .ne 9, 3) := by decide +kernel
theorem dX12_sheet_56 : decode cX12_sheet 56 = .ok (.iload 6, 2) := by decide +kernel
theorem dX12_sheet_58 : decode cX12_sheet 58 = .ok (.i2b, 1) := by decide +kernel
theorem dX12_sheet_59 : decode cX12_sheet 59 = .ok (.goto 16, 3) := by decide +kernel
theorem dX12_sheet_62 : decode cX12_sheet 62 = .ok (.iload_n 1, 1) := by decide +kernel
theorem dX12_sheet_63 : decode cX12_sheet 63 = .ok (.iconst 1, 1) := by decide +kernel
theorem dX12_sheet_64 : decode cX12_sheet 64 = .ok (.if_icmp .ne 9, 3) := by decide +kernel
theorem dX12_sheet_67 : decode cX12_sheet 67 = .ok (.iload 6, 2) := by decide +kernel
theorem dX12_sheet_69 : decode cX12_sheet 69 = .ok (.i2s, 1) := by decide +kernel
theorem dX12_sheet_70 : decode cX12_sheet 70 = .ok (.goto 5, 3) := by decide +kernel
theorem dX12_sheet_73 : decode cX12_sheet 73 = .ok (.iload 6, 2) := by decide +kernel
theorem dX12_sheet_75 : decode cX12_sheet 75 = .ok (.istore 8, 2) := by decide +kernel
theorem dX12_sheet_77 : decode cX12_sheet 77 = .ok (.aload_n 0, 1) := by decide +kernel
theorem dX12_sheet_78 : decode cX12_sheet 78 = .ok (.getfield 23, 3) := by decide +kernel
theorem dX12_sheet_81 : decode cX12_sheet 81 = .ok (.iload 7, 2) := by decide +kernel
theorem dX12_sheet_83 : decode cX12_sheet 83 = .ok (.iload_n 1, 1) := by decide +kernel
theorem dX12_sheet_84 : decode cX12_sheet 84 = .ok (.iconst 3, 1) := by decide +kernel
theorem dX12_sheet_85 : decode cX12_sheet 85 = .ok (.if_icmp .eq 9, 3) := by decide +kernel
theorem dX12_sheet_88 : decode cX12_sheet 88 = .ok (.iload 7, 2) := by decide +kernel
theorem dX12_sheet_90 : decode cX12_sheet 90 = .ok (.iload_n 2, 1) := by decide +kernel
theorem dX12_sheet_91 : decode cX12_sheet 91 = .ok (.if_icmp .lt 13, 3) := by decide +kernel
theorem dX12_sheet_94 : decode cX12_sheet 94 = .ok (.aload_n 0, 1) := by decide +kernel
theorem dX12_sheet_95 : decode cX12_sheet 95 = .ok (.getfield 20, 3) := by decide +kernel
theorem dX12_sheet_98 : decode cX12_sheet 98 = .ok (.iload 7, 2) := by decide +kernel
theorem dX12_sheet_100 : decode cX12_sheet 100 = .ok (.iaload, 1) := by decide +kernel
theorem dX12_sheet_101 : decode cX12_sheet 101 = .ok (.goto 14, 3) := by decide +kernel
theorem dX12_sheet_104 : decode cX12_sheet 104 = .ok (.iconst 0, 1) := by decide +kernel
theorem dX12_sheet_105 : decode cX12_sheet 105 = .ok (.bipush 60, 2) := by decide +kernel
theorem dX12_sheet_107 : decode cX12_sheet 107 = .ok (.iload 8, 2) := by decide +kernel
theorem dX12_sheet_109 : decode cX12_sheet 109 = .ok (.invokestatic 256, 3) := by decide +kernel
theorem dX12_sheet_112 : decode cX12_sheet 112 = .ok (.invokestatic 261, 3) := by decide +kernel
theorem dX12_sheet_115 : decode cX12_sheet 115 = .ok (.iastore, 1) := by decide +kernel
theorem dX12_sheet_116 : decode cX12_sheet 116 = .ok (.iload 5, 2) := by decide +kernel
theorem dX12_sheet_118 : decode cX12_sheet 118 = .ok (.aload_n 0, 1) := by decide +kernel
theorem dX12_sheet_119 : decode cX12_sheet 119 = .ok (.getfield 23, 3) := by decide +kernel
theorem dX12_sheet_122 : decode cX12_sheet 122 = .ok (.iload 7, 2) := by decide +kernel
theorem dX12_sheet_124 : decode cX12_sheet 124 = .ok (.iaload, 1) := by decide +kernel
theorem dX12_sheet_125 : decode cX12_sheet 125 = .ok (.iadd, 1) := by decide +kernel
theorem dX12_sheet_126 : decode cX12_sheet 126 = .ok (.istore 5, 2) := by decide +kernel
theorem dX12_sheet_128 : decode cX12_sheet 128 = .ok (.iload 6, 2) := by decide +kernel
theorem dX12_sheet_130 : decode cX12_sheet 130 = .ok (.iload 4, 2) := by decide +kernel
theorem dX12_sheet_132 : decode cX12_sheet 132 = .ok (.iadd, 1) := by decide +kernel
theorem dX12_sheet_133 : decode cX12_sheet 133 = .ok (.istore 6, 2) := by decide +kernel
theorem dX12_sheet_135 : decode cX12_sheet 135 = .ok (.iinc 7 1, 3) := by decide +kernel
theorem dX12_sheet_138 : decode cX12_sheet 138 = .ok (.goto (-95), 3) := by decide +kernel
theorem dX12_sheet_141 : decode cX12_sheet 141 = .ok (.iload_n 1, 1) := by decide +kernel
theorem dX12_sheet_142 : decode cX12_sheet 142 = .ok (.iconst 3, 1) := by decide +kernel
theorem dX12_sheet_143 : decode cX12_sheet 143 = .ok (.if_icmp .ne 8, 3) := by decide +kernel
theorem dX12_sheet_146 : decode cX12_sheet 146 = .ok (.bipush (-3), 2) := by decide +kernel
theorem dX12_sheet_148 : decode cX12_sheet 148 = .ok (.goto 5, 3) := by decide +kernel
theorem dX12_sheet_151 : decode cX12_sheet 151 = .ok (.iload 5, 2) := by decide +kernel
theorem dX12_sheet_153 : decode cX12_sheet 153 = .ok (.ireturn, 1) := by decide +kernel
set_option maxRecDepth 100000 in
set_option maxHeartbeats 4000000 in
theorem B_X12_sheet_0 {κ : Nat → List Value → List Value → m2M → Prop} {D : Nat} {Q : Option Value → m2M → Prop} (h : m2_RL κ cX12_sheet RX12 9 (D + 1) (some .int) Q) (hD : 0 ≤ D) {x1 : Int32} {x2 : Int32} {x3 : Int32} {x4 : Int32} {μ : m2M} (k : ((fX12_in x1 0 3) = 1 → (x2 ≤ 20 → (3 ≤ x1 → κ 43 [.ref kM, .int x1, .int x2, .int x3, .int x4, .int 0, .int x3, .int 0, .null] [] (m2_si μ kM 22 0)) ∧ (¬ 3 ≤ x1 → (0 ≤ x2 → κ 43 [.ref kM, .int x1, .int x2, .int x3, .int x4, .int 0, .int x3, .int 0, .null] [] (m2_si μ kM 22 0)) ∧ (¬ 0 ≤ x2 → Q (some (.int (-2))) (m2_si μ kM 22 0)))) ∧ (¬ x2 ≤ 20 → Q (some (.int (-1))) (m2_si μ kM 22 0))) ∧ (¬ (fX12_in x1 0 3) = 1 → Q (some (.int (-1))) (m2_si μ kM 22 0))) : κ 0 [.ref kM, .int x1, .int x2, .int x3, .int x4, .null, .null, .null, .null] [] μ := by
  have hB := h.b
  refine m2_aload_n hB dX12_sheet_0 rfl ?_
  refine m2_iconst hB dX12_sheet_1 (v := 0) (by decide) ?_
  refine m2_putI hB dX12_sheet_2 fl_X12_143 sh_kM rfl ?_
  refine m2_iload_n hB dX12_sheet_5 rfl ?_
  refine m2_iconst hB dX12_sheet_6 (v := 0) (by decide) ?_
  refine m2_iconst hB dX12_sheet_7 (v := 3) (by decide) ?_
  refine m2_invSz hB (as := [.int x1, .int 0, .int 3]) dX12_sheet_8 ms_X12_149 rfl (Nat.le_of_ble_eq_true rfl) rfl (P_X12_in (by omega) (x1) (0) (3) _ ) (fun y1 μ2 hq3 => ?_)
  obtain ⟨⟨⟩, hq3⟩ := hq3
  subst μ2
  show κ 11 [.ref kM, .int x1, .int x2, .int x3, .int x4, .null, .null, .null, .null] [.int (if (fX12_in x1 0 3) = 1 then 1 else 0 : Int32)] (m2_si μ kM 22 0)
  by_cases q4 : (fX12_in x1 0 3) = 1
  · rw [if_pos q4]
    replace k := k.1 q4
    refine m2_if_eq hB dX12_sheet_11 (tgt := 20) (by decide) (fun q => absurd q (by decide)) (fun _ => ?_)
    refine m2_iload_n hB dX12_sheet_14 rfl ?_
    refine m2_bipush hB dX12_sheet_15 (v := 20) (by decide) ?_
    refine m2_icmp_le hB dX12_sheet_17 (tgt := 22) (by decide) (fun q5 : x2 ≤ 20 => ?_) (fun q5 : ¬ x2 ≤ 20 => ?_)
    · replace k := k.1 q5
      refine m2_iload_n hB dX12_sheet_22 rfl ?_
      refine m2_iconst hB dX12_sheet_23 (v := 3) (by decide) ?_
      refine m2_icmp_ge hB dX12_sheet_24 (tgt := 34) (by decide) (fun q6 : 3 ≤ x1 => ?_) (fun q6 : ¬ 3 ≤ x1 => ?_)
      · replace k := k.1 q6
        refine m2_iconst hB dX12_sheet_34 (v := 0) (by decide) ?_
        refine m2_istore hB (ls' := [.ref kM, .int x1, .int x2, .int x3, .int x4, .int 0, .null, .null, .null]) dX12_sheet_35 (by decide) rfl ?_
        refine m2_iload_n hB dX12_sheet_37 rfl ?_
        refine m2_istore hB (ls' := [.ref kM, .int x1, .int x2, .int x3, .int x4, .int 0, .int x3, .null, .null]) dX12_sheet_38 (by decide) rfl ?_
        refine m2_iconst hB dX12_sheet_40 (v := 0) (by decide) ?_
        refine m2_istore hB (ls' := [.ref kM, .int x1, .int x2, .int x3, .int x4, .int 0, .int x3, .int 0, .null]) dX12_sheet_41 (by decide) rfl ?_
        exact k
      · replace k := k.2 q6
        refine m2_iload_n hB dX12_sheet_27 rfl ?_
        refine m2_if_ge hB dX12_sheet_28 (tgt := 34) (by decide) (fun q7 : 0 ≤ x2 => ?_) (fun q7 : ¬ 0 ≤ x2 => ?_)
        · replace k := k.1 q7
          refine m2_iconst hB dX12_sheet_34 (v := 0) (by decide) ?_
          refine m2_istore hB (ls' := [.ref kM, .int x1, .int x2, .int x3, .int x4, .int 0, .null, .null, .null]) dX12_sheet_35 (by decide) rfl ?_
          refine m2_iload_n hB dX12_sheet_37 rfl ?_
          refine m2_istore hB (ls' := [.ref kM, .int x1, .int x2, .int x3, .int x4, .int 0, .int x3, .null, .null]) dX12_sheet_38 (by decide) rfl ?_
          refine m2_iconst hB dX12_sheet_40 (v := 0) (by decide) ?_
          refine m2_istore hB (ls' := [.ref kM, .int x1, .int x2, .int x3, .int x4, .int 0, .int x3, .int 0, .null]) dX12_sheet_41 (by decide) rfl ?_
          exact k
        · replace k := k.2 q7
          refine m2_bipush hB dX12_sheet_31 (v := (-2)) (by decide) ?_
          exact m2_iret h dX12_sheet_33 k
    · replace k := k.2 q5
      refine m2_iconst hB dX12_sheet_20 (v := (-1)) (by decide) ?_
      exact m2_iret h dX12_sheet_21 k
  · rw [if_neg q4]
    replace k := k.2 q4
    refine m2_if_eq hB dX12_sheet_11 (tgt := 20) (by decide) (fun _ => ?_) (fun q => absurd q (by decide))
    refine m2_iconst hB dX12_sheet_20 (v := (-1)) (by decide) ?_
    exact m2_iret h dX12_sheet_21 k
set_option maxRecDepth 100000 in
set_option maxHeartbeats 4000000 in
theorem B_X12_sheet_43 {κ : Nat → List Value → List Value → m2M → Prop} {D : Nat} {Q : Option Value → m2M → Prop} (h : m2_RL κ cX12_sheet RX12 9 (D + 1) (some .int) Q) (hD : 0 ≤ D) {v1 : Int32} {v2 : Int32} {v3 : Int32} {v4 : Int32} {v5 : Int32} {v6 : Int32} {v7 : Int32} {μ : m2M} (k : ((μ.1 kM 0) ≤ v7 → Q (some (.int (if v1 = 3 then (-3) else v5 : Int32))) μ) ∧ (¬ (μ.1 kM 0) ≤ v7 → (v1 = 3 → (vp_in v7 20) ∧ (κ 43 [.ref kM, .int v1, .int v2, .int v3, .int v4, .int (v5 + (((m2_si μ kM_left (v7).toNatClampNeg (μ.1 kM_lets (v7).toNatClampNeg))).1 kM_left (v7).toNatClampNeg)), .int (v6 + v4), .int (v7 + 1), .null] [] (m2_si μ kM_left (v7).toNatClampNeg (μ.1 kM_lets (v7).toNatClampNeg)))) ∧ (¬ v1 = 3 → (v7 < v2 → (vp_in v7 20) ∧ (κ 43 [.ref kM, .int v1, .int v2, .int v3, .int v4, .int (v5 + (((m2_si μ kM_left (v7).toNatClampNeg (m2_max 0 (m2_min 60 (if v1 = 0 then (v6).toInt8.toInt32 else (if v1 = 1 then (v6).toInt16.toInt32 else v6 : Int32) : Int32))))).1 kM_left (v7).toNatClampNeg)), .int (v6 + v4), .int (v7 + 1), .null] [] (m2_si μ kM_left (v7).toNatClampNeg (m2_max 0 (m2_min 60 (if v1 = 0 then (v6).toInt8.toInt32 else (if v1 = 1 then (v6).toInt16.toInt32 else v6 : Int32) : Int32)))))) ∧ (¬ v7 < v2 → (vp_in v7 20) ∧ (κ 43 [.ref kM, .int v1, .int v2, .int v3, .int v4, .int (v5 + (((m2_si μ kM_left (v7).toNatClampNeg (μ.1 kM_lets (v7).toNatClampNeg))).1 kM_left (v7).toNatClampNeg)), .int (v6 + v4), .int (v7 + 1), .null] [] (m2_si μ kM_left (v7).toNatClampNeg (μ.1 kM_lets (v7).toNatClampNeg))))))) : κ 43 [.ref kM, .int v1, .int v2, .int v3, .int v4, .int v5, .int v6, .int v7, .null] [] μ := by
  have hB := h.b
  refine m2_iload hB dX12_sheet_43 rfl ?_
  refine m2_aload_n hB dX12_sheet_45 rfl ?_
  refine m2_getI hB dX12_sheet_46 fl_X12_153 sh_kM rfl ?_
  refine m2_icmp_ge hB dX12_sheet_49 (tgt := 141) (by decide) (fun q4 : (μ.1 kM 0) ≤ v7 => ?_) (fun q4 : ¬ (μ.1 kM 0) ≤ v7 => ?_)
  · replace k := k.1 q4
    refine m2_iload_n hB dX12_sheet_141 rfl ?_
    refine m2_iconst hB dX12_sheet_142 (v := 3) (by decide) ?_
    have G6 : κ 153 [.ref kM, .int v1, .int v2, .int v3, .int v4, .int v5, .int v6, .int v7, .null] [.int (if v1 = 3 then (-3) else v5 : Int32)] μ := by
      exact m2_iret h dX12_sheet_153 k
    refine m2_icmp_ne hB dX12_sheet_143 (tgt := 151) (by decide) (fun q5 : ¬ v1 = 3 => ?_) (fun q5 : v1 = 3 => ?_)
    · rw [if_neg q5] at G6
      refine m2_iload hB dX12_sheet_151 rfl ?_
      exact G6
    · rw [if_pos q5] at G6
      refine m2_bipush hB dX12_sheet_146 (v := (-3)) (by decide) ?_
      refine m2_goto hB dX12_sheet_148 (tgt := 153) (by decide) ?_
      exact G6
  · replace k := k.2 q4
    refine m2_iload_n hB dX12_sheet_52 rfl ?_
    have G9 : κ 75 [.ref kM, .int v1, .int v2, .int v3, .int v4, .int v5, .int v6, .int v7, .null] [.int (if v1 = 0 then (v6).toInt8.toInt32 else (if v1 = 1 then (v6).toInt16.toInt32 else v6 : Int32) : Int32)] μ := by
      refine m2_istore hB (ls' := [.ref kM, .int v1, .int v2, .int v3, .int v4, .int v5, .int v6, .int v7, .int (if v1 = 0 then (v6).toInt8.toInt32 else (if v1 = 1 then (v6).toInt16.toInt32 else v6 : Int32) : Int32)]) dX12_sheet_75 (by decide) rfl ?_
      refine m2_aload_n hB dX12_sheet_77 rfl ?_
      refine m2_getR hB dX12_sheet_78 fl_X12_23 sh_kM (c1 := kM_left) rfl ?_
      refine m2_iload hB dX12_sheet_81 rfl ?_
      refine m2_iload_n hB dX12_sheet_83 rfl ?_
      refine m2_iconst hB dX12_sheet_84 (v := 3) (by decide) ?_
      refine m2_icmp_eq hB dX12_sheet_85 (tgt := 94) (by decide) (fun q11 : v1 = 3 => ?_) (fun q11 : ¬ v1 = 3 => ?_)
      · replace k := k.1 q11
        refine m2_aload_n hB dX12_sheet_94 rfl ?_
        refine m2_getR hB dX12_sheet_95 fl_X12_20 sh_kM (c1 := kM_lets) rfl ?_
        refine m2_iload hB dX12_sheet_98 rfl ?_
        obtain ⟨hi12, k⟩ := k
        refine m2_iald hB dX12_sheet_100 sh_kM_lets hi12 ?_
        refine m2_goto hB dX12_sheet_101 (tgt := 115) (by decide) ?_
        have hi13 := hi12
        refine m2_iast hB dX12_sheet_115 sh_kM_left hi13 ?_
        refine m2_iload hB dX12_sheet_116 rfl ?_
        refine m2_aload_n hB dX12_sheet_118 rfl ?_
        refine m2_getR hB dX12_sheet_119 fl_X12_23 sh_kM (c1 := kM_left) rfl ?_
        refine m2_iload hB dX12_sheet_122 rfl ?_
        have hi14 := hi12
        refine m2_iald hB dX12_sheet_124 sh_kM_left hi14 ?_
        refine m2_iadd hB dX12_sheet_125 ?_
        refine m2_istore hB (ls' := [.ref kM, .int v1, .int v2, .int v3, .int v4, .int (v5 + (((m2_si μ kM_left (v7).toNatClampNeg (μ.1 kM_lets (v7).toNatClampNeg))).1 kM_left (v7).toNatClampNeg)), .int v6, .int v7, .int (if v1 = 0 then (v6).toInt8.toInt32 else (if v1 = 1 then (v6).toInt16.toInt32 else v6 : Int32) : Int32)]) dX12_sheet_126 (by decide) rfl ?_
        refine m2_iload hB dX12_sheet_128 rfl ?_
        refine m2_iload hB dX12_sheet_130 rfl ?_
        refine m2_iadd hB dX12_sheet_132 ?_
        refine m2_istore hB (ls' := [.ref kM, .int v1, .int v2, .int v3, .int v4, .int (v5 + (((m2_si μ kM_left (v7).toNatClampNeg (μ.1 kM_lets (v7).toNatClampNeg))).1 kM_left (v7).toNatClampNeg)), .int (v6 + v4), .int v7, .int (if v1 = 0 then (v6).toInt8.toInt32 else (if v1 = 1 then (v6).toInt16.toInt32 else v6 : Int32) : Int32)]) dX12_sheet_133 (by decide) rfl ?_
        refine m2_iinc hB (ls' := [.ref kM, .int v1, .int v2, .int v3, .int v4, .int (v5 + (((m2_si μ kM_left (v7).toNatClampNeg (μ.1 kM_lets (v7).toNatClampNeg))).1 kM_left (v7).toNatClampNeg)), .int (v6 + v4), .int (v7 + 1), .int (if v1 = 0 then (v6).toInt8.toInt32 else (if v1 = 1 then (v6).toInt16.toInt32 else v6 : Int32) : Int32)]) (v := (v7 + 1)) dX12_sheet_135 rfl (by decide) rfl rfl ?_
        refine m2_goto hB dX12_sheet_138 (tgt := 43) (by decide) ?_
        exact m2_weak (ls' := [.ref kM, .int v1, .int v2, .int v3, .int v4, .int (v5 + (((m2_si μ kM_left (v7).toNatClampNeg (μ.1 kM_lets (v7).toNatClampNeg))).1 kM_left (v7).toNatClampNeg)), .int (v6 + v4), .int (v7 + 1), .null]) hB ⟨Or.inr rfl, Or.inr rfl, Or.inr rfl, Or.inr rfl, Or.inr rfl, Or.inr rfl, Or.inr rfl, Or.inr rfl, Or.inl rfl, trivial⟩ k
      · replace k := k.2 q11
        refine m2_iload hB dX12_sheet_88 rfl ?_
        refine m2_iload_n hB dX12_sheet_90 rfl ?_
        refine m2_icmp_lt hB dX12_sheet_91 (tgt := 104) (by decide) (fun q16 : v7 < v2 => ?_) (fun q16 : ¬ v7 < v2 => ?_)
        · replace k := k.1 q16
          refine m2_iconst hB dX12_sheet_104 (v := 0) (by decide) ?_
          refine m2_bipush hB dX12_sheet_105 (v := 60) (by decide) ?_
          refine m2_iload hB dX12_sheet_107 rfl ?_
          refine m2_mmin hB dX12_sheet_109 ms_X12_256 (Nat.le_of_ble_eq_true rfl) ?_
          refine m2_mmax hB dX12_sheet_112 ms_X12_261 (Nat.le_of_ble_eq_true rfl) ?_
          obtain ⟨hi17, k⟩ := k
          refine m2_iast hB dX12_sheet_115 sh_kM_left hi17 ?_
          refine m2_iload hB dX12_sheet_116 rfl ?_
          refine m2_aload_n hB dX12_sheet_118 rfl ?_
          refine m2_getR hB dX12_sheet_119 fl_X12_23 sh_kM (c1 := kM_left) rfl ?_
          refine m2_iload hB dX12_sheet_122 rfl ?_
          have hi18 := hi17
          refine m2_iald hB dX12_sheet_124 sh_kM_left hi18 ?_
          refine m2_iadd hB dX12_sheet_125 ?_
          refine m2_istore hB (ls' := [.ref kM, .int v1, .int v2, .int v3, .int v4, .int (v5 + (((m2_si μ kM_left (v7).toNatClampNeg (m2_max 0 (m2_min 60 (if v1 = 0 then (v6).toInt8.toInt32 else (if v1 = 1 then (v6).toInt16.toInt32 else v6 : Int32) : Int32))))).1 kM_left (v7).toNatClampNeg)), .int v6, .int v7, .int (if v1 = 0 then (v6).toInt8.toInt32 else (if v1 = 1 then (v6).toInt16.toInt32 else v6 : Int32) : Int32)]) dX12_sheet_126 (by decide) rfl ?_
          refine m2_iload hB dX12_sheet_128 rfl ?_
          refine m2_iload hB dX12_sheet_130 rfl ?_
          refine m2_iadd hB dX12_sheet_132 ?_
          refine m2_istore hB (ls' := [.ref kM, .int v1, .int v2, .int v3, .int v4, .int (v5 + (((m2_si μ kM_left (v7).toNatClampNeg (m2_max 0 (m2_min 60 (if v1 = 0 then (v6).toInt8.toInt32 else (if v1 = 1 then (v6).toInt16.toInt32 else v6 : Int32) : Int32))))).1 kM_left (v7).toNatClampNeg)), .int (v6 + v4), .int v7, .int (if v1 = 0 then (v6).toInt8.toInt32 else (if v1 = 1 then (v6).toInt16.toInt32 else v6 : Int32) : Int32)]) dX12_sheet_133 (by decide) rfl ?_
          refine m2_iinc hB (ls' := [.ref kM, .int v1, .int v2, .int v3, .int v4, .int (v5 + (((m2_si μ kM_left (v7).toNatClampNeg (m2_max 0 (m2_min 60 (if v1 = 0 then (v6).toInt8.toInt32 else (if v1 = 1 then (v6).toInt16.toInt32 else v6 : Int32) : Int32))))).1 kM_left (v7).toNatClampNeg)), .int (v6 + v4), .int (v7 + 1), .int (if v1 = 0 then (v6).toInt8.toInt32 else (if v1 = 1 then (v6).toInt16.toInt32 else v6 : Int32) : Int32)]) (v := (v7 + 1)) dX12_sheet_135 rfl (by decide) rfl rfl ?_
          refine m2_goto hB dX12_sheet_138 (tgt := 43) (by decide) ?_
          exact m2_weak (ls' := [.ref kM, .int v1, .int v2, .int v3, .int v4, .int (v5 + (((m2_si μ kM_left (v7).toNatClampNeg (m2_max 0 (m2_min 60 (if v1 = 0 then (v6).toInt8.toInt32 else (if v1 = 1 then (v6).toInt16.toInt32 else v6 : Int32) : Int32))))).1 kM_left (v7).toNatClampNeg)), .int (v6 + v4), .int (v7 + 1), .null]) hB ⟨Or.inr rfl, Or.inr rfl, Or.inr rfl, Or.inr rfl, Or.inr rfl, Or.inr rfl, Or.inr rfl, Or.inr rfl, Or.inl rfl, trivial⟩ k
        · replace k := k.2 q16
          refine m2_aload_n hB dX12_sheet_94 rfl ?_
          refine m2_getR hB dX12_sheet_95 fl_X12_20 sh_kM (c1 := kM_lets) rfl ?_
          refine m2_iload hB dX12_sheet_98 rfl ?_
          obtain ⟨hi19, k⟩ := k
          refine m2_iald hB dX12_sheet_100 sh_kM_lets hi19 ?_
          refine m2_goto hB dX12_sheet_101 (tgt := 115) (by decide) ?_
          have hi20 := hi19
          refine m2_iast hB dX12_sheet_115 sh_kM_left hi20 ?_
          refine m2_iload hB dX12_sheet_116 rfl ?_
          refine m2_aload_n hB dX12_sheet_118 rfl ?_
          refine m2_getR hB dX12_sheet_119 fl_X12_23 sh_kM (c1 := kM_left) rfl ?_
          refine m2_iload hB dX12_sheet_122 rfl ?_
          have hi21 := hi19
          refine m2_iald hB dX12_sheet_124 sh_kM_left hi21 ?_
          refine m2_iadd hB dX12_sheet_125 ?_
          refine m2_istore hB (ls' := [.ref kM, .int v1, .int v2, .int v3, .int v4, .int (v5 + (((m2_si μ kM_left (v7).toNatClampNeg (μ.1 kM_lets (v7).toNatClampNeg))).1 kM_left (v7).toNatClampNeg)), .int v6, .int v7, .int (if v1 = 0 then (v6).toInt8.toInt32 else (if v1 = 1 then (v6).toInt16.toInt32 else v6 : Int32) : Int32)]) dX12_sheet_126 (by decide) rfl ?_
          refine m2_iload hB dX12_sheet_128 rfl ?_
          refine m2_iload hB dX12_sheet_130 rfl ?_
          refine m2_iadd hB dX12_sheet_132 ?_
          refine m2_istore hB (ls' := [.ref kM, .int v1, .int v2, .int v3, .int v4, .int (v5 + (((m2_si μ kM_left (v7).toNatClampNeg (μ.1 kM_lets (v7).toNatClampNeg))).1 kM_left (v7).toNatClampNeg)), .int (v6 + v4), .int v7, .int (if v1 = 0 then (v6).toInt8.toInt32 else (if v1 = 1 then (v6).toInt16.toInt32 else v6 : Int32) : Int32)]) dX12_sheet_133 (by decide) rfl ?_
          refine m2_iinc hB (ls' := [.ref kM, .int v1, .int v2, .int v3, .int v4, .int (v5 + (((m2_si μ kM_left (v7).toNatClampNeg (μ.1 kM_lets (v7).toNatClampNeg))).1 kM_left (v7).toNatClampNeg)), .int (v6 + v4), .int (v7 + 1), .int (if v1 = 0 then (v6).toInt8.toInt32 else (if v1 = 1 then (v6).toInt16.toInt32 else v6 : Int32) : Int32)]) (v := (v7 + 1)) dX12_sheet_135 rfl (by decide) rfl rfl ?_
          refine m2_goto hB dX12_sheet_138 (tgt := 43) (by decide) ?_
          exact m2_weak (ls' := [.ref kM, .int v1, .int v2, .int v3, .int v4, .int (v5 + (((m2_si μ kM_left (v7).toNatClampNeg (μ.1 kM_lets (v7).toNatClampNeg))).1 kM_left (v7).toNatClampNeg)), .int (v6 + v4), .int (v7 + 1), .null]) hB ⟨Or.inr rfl, Or.inr rfl, Or.inr rfl, Or.inr rfl, Or.inr rfl, Or.inr rfl, Or.inr rfl, Or.inr rfl, Or.inl rfl, trivial⟩ k
    refine m2_if_ne hB dX12_sheet_53 (tgt := 62) (by decide) (fun q8 : ¬ v1 = 0 => ?_) (fun q8 : v1 = 0 => ?_)
    · rw [if_neg q8] at G9
      refine m2_iload_n hB dX12_sheet_62 rfl ?_
      refine m2_iconst hB dX12_sheet_63 (v := 1) (by decide) ?_
      have G22 : κ 75 [.ref kM, .int v1, .int v2, .int v3, .int v4, .int v5, .int v6, .int v7, .null] [.int (if v1 = 1 then (v6).toInt16.toInt32 else v6 : Int32)] μ := by
        exact G9
      refine m2_icmp_ne hB dX12_sheet_64 (tgt := 73) (by decide) (fun q7 : ¬ v1 = 1 => ?_) (fun q7 : v1 = 1 => ?_)
      · rw [if_neg q7] at G22
        refine m2_iload hB dX12_sheet_73 rfl ?_
        exact G22
      · rw [if_pos q7] at G22
        refine m2_iload hB dX12_sheet_67 rfl ?_
        refine m2_i2s hB dX12_sheet_69 ?_
        refine m2_goto hB dX12_sheet_70 (tgt := 75) (by decide) ?_
        exact G22
    · rw [if_pos q8] at G9
      refine m2_iload hB dX12_sheet_56 rfl ?_
      refine m2_i2b hB dX12_sheet_58 ?_
      refine m2_goto hB dX12_sheet_59 (tgt := 75) (by decide) ?_
      exact G9
theorem dX12_keeps_0 : decode cX12_keeps 0 = .ok (.aload_n 0, 1) := by decide +kernel
theorem dX12_keeps_1 : decode cX12_keeps 1 = .ok (.iconst 0, 1) := by decide +kernel
theorem dX12_keeps_2 : decode cX12_keeps 2 = .ok (.putfield 143, 3) := by decide +kernel
theorem dX12_keeps_5 : decode cX12_keeps 5 = .ok (.iload_n 1, 1) := by decide +kernel
theorem dX12_keeps_6 : decode cX12_keeps 6 = .ok (.iconst 0, 1) := by decide +kernel
theorem dX12_keeps_7 : decode cX12_keeps 7 = .ok (.bipush 59, 2) := by decide +kernel
theorem dX12_keeps_9 : decode cX12_keeps 9 = .ok (.invokestatic 149, 3) := by decide +kernel
theorem dX12_keeps_12 : decode cX12_keeps 12 = .ok (.ifCond .ne 5, 3) := by decide +kernel
theorem dX12_keeps_15 : decode cX12_keeps 15 = .ok (.iconst (-1), 1) := by decide +kernel
theorem dX12_keeps_16 : decode cX12_keeps 16 = .ok (.ireturn, 1) := by decide +kernel
theorem dX12_keeps_17 : decode cX12_keeps 17 = .ok (.aload_n 0, 1) := by decide +kernel
theorem dX12_keeps_18 : decode cX12_keeps 18 = .ok (.getfield 53, 3) := by decide +kernel
theorem dX12_keeps_21 : decode cX12_keeps 21 = .ok (.istore_n 2, 1) := by decide +kernel
theorem dX12_keeps_22 : decode cX12_keeps 22 = .ok (.aload_n 0, 1) := by decide +kernel
theorem dX12_keeps_23 : decode cX12_keeps 23 = .ok (.iload_n 1, 1) := by decide +kernel
theorem dX12_keeps_24 : decode cX12_keeps 24 = .ok (.putfield 53, 3) := by decide +kernel
theorem dX12_keeps_27 : decode cX12_keeps 27 = .ok (.iload_n 2, 1) := by decide +kernel
theorem dX12_keeps_28 : decode cX12_keeps 28 = .ok (.ireturn, 1) := by decide +kernel
set_option maxRecDepth 100000 in
set_option maxHeartbeats 4000000 in
theorem B_X12_keeps_0 {κ : Nat → List Value → List Value → m2M → Prop} {D : Nat} {Q : Option Value → m2M → Prop} (h : m2_RL κ cX12_keeps RX12 3 (D + 1) (some .int) Q) (hD : 0 ≤ D) {x1 : Int32} {μ : m2M} (k : ((fX12_in x1 0 59) = 1 → Q (some (.int (μ.1 kM 17))) (m2_si (m2_si μ kM 22 0) kM 17 x1)) ∧ (¬ (fX12_in x1 0 59) = 1 → Q (some (.int (-1))) (m2_si μ kM 22 0))) : κ 0 [.ref kM, .int x1, .null] [] μ := by
  have hB := h.b
  refine m2_aload_n hB dX12_keeps_0 rfl ?_
  refine m2_iconst hB dX12_keeps_1 (v := 0) (by decide) ?_
  refine m2_putI hB dX12_keeps_2 fl_X12_143 sh_kM rfl ?_
  refine m2_iload_n hB dX12_keeps_5 rfl ?_
  refine m2_iconst hB dX12_keeps_6 (v := 0) (by decide) ?_
  refine m2_bipush hB dX12_keeps_7 (v := 59) (by decide) ?_
  refine m2_invSz hB (as := [.int x1, .int 0, .int 59]) dX12_keeps_9 ms_X12_149 rfl (Nat.le_of_ble_eq_true rfl) rfl (P_X12_in (by omega) (x1) (0) (59) _ ) (fun y1 μ2 hq3 => ?_)
  obtain ⟨⟨⟩, hq3⟩ := hq3
  subst μ2
  show κ 12 [.ref kM, .int x1, .null] [.int (if (fX12_in x1 0 59) = 1 then 1 else 0 : Int32)] (m2_si μ kM 22 0)
  by_cases q4 : (fX12_in x1 0 59) = 1
  · rw [if_pos q4]
    replace k := k.1 q4
    refine m2_if_ne hB dX12_keeps_12 (tgt := 17) (by decide) (fun _ => ?_) (fun q => absurd q (by decide))
    refine m2_aload_n hB dX12_keeps_17 rfl ?_
    refine m2_getI hB dX12_keeps_18 fl_X12_53 sh_kM rfl ?_
    refine m2_istore_n hB (ls' := [.ref kM, .int x1, .int (μ.1 kM 17)]) dX12_keeps_21 rfl (by decide) rfl ?_
    refine m2_aload_n hB dX12_keeps_22 rfl ?_
    refine m2_iload_n hB dX12_keeps_23 rfl ?_
    refine m2_putI hB dX12_keeps_24 fl_X12_53 sh_kM rfl ?_
    refine m2_iload_n hB dX12_keeps_27 rfl ?_
    exact m2_iret h dX12_keeps_28 k
  · rw [if_neg q4]
    replace k := k.2 q4
    refine m2_if_ne hB dX12_keeps_12 (tgt := 17) (by decide) (fun q => absurd q (by decide)) (fun _ => ?_)
    refine m2_iconst hB dX12_keeps_15 (v := (-1)) (by decide) ?_
    exact m2_iret h dX12_keeps_16 k
