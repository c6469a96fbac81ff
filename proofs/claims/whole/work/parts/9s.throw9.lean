theorem dL_door_0 : decode cL_door 0 = .ok (.aload_n 3, 1) := by decide +kernel
theorem dL_door_1 : decode cL_door 1 = .ok (.iconst 0, 1) := by decide +kernel
theorem dL_door_2 : decode cL_door 2 = .ok (.aload_n 0, 1) := by decide +kernel
theorem dL_door_3 : decode cL_door 3 = .ok (.iload_n 1, 1) := by decide +kernel
theorem dL_door_4 : decode cL_door 4 = .ok (.iload_n 2, 1) := by decide +kernel
theorem dL_door_5 : decode cL_door 5 = .ok (.invokevirtual 7, 3) := by decide +kernel
theorem dL_door_8 : decode cL_door 8 = .ok (.i2l, 1) := by decide +kernel
theorem dL_door_9 : decode cL_door 9 = .ok (.lastore, 1) := by decide +kernel
theorem dL_door_10 : decode cL_door 10 = .ok (.goto 7, 3) := by decide +kernel
theorem dL_door_13 : decode cL_door 13 = .ok (.astore 4, 2) := by decide +kernel
theorem dL_door_15 : decode cL_door 15 = .ok (.iconst 1, 1) := by decide +kernel
theorem dL_door_16 : decode cL_door 16 = .ok (.ireturn, 1) := by decide +kernel
theorem dL_door_17 : decode cL_door 17 = .ok (.iconst 0, 1) := by decide +kernel
theorem dL_door_18 : decode cL_door 18 = .ok (.ireturn, 1) := by decide +kernel
theorem dL_of_0 : decode cL_of 0 = .ok (.aload_n 3, 1) := by decide +kernel
theorem dL_of_1 : decode cL_of 1 = .ok (.iconst 0, 1) := by decide +kernel
theorem dL_of_2 : decode cL_of 2 = .ok (.aload_n 0, 1) := by decide +kernel
theorem dL_of_3 : decode cL_of 3 = .ok (.iload_n 1, 1) := by decide +kernel
theorem dL_of_4 : decode cL_of 4 = .ok (.iload_n 2, 1) := by decide +kernel
theorem dL_of_5 : decode cL_of 5 = .ok (.invokevirtual 15, 3) := by decide +kernel
theorem dL_of_8 : decode cL_of 8 = .ok (.i2l, 1) := by decide +kernel
theorem dL_of_9 : decode cL_of 9 = .ok (.lastore, 1) := by decide +kernel
theorem dL_of_10 : decode cL_of 10 = .ok (.goto 7, 3) := by decide +kernel
theorem dL_of_13 : decode cL_of 13 = .ok (.astore 4, 2) := by decide +kernel
theorem dL_of_15 : decode cL_of 15 = .ok (.iconst 1, 1) := by decide +kernel
theorem dL_of_16 : decode cL_of 16 = .ok (.ireturn, 1) := by decide +kernel
theorem dL_of_17 : decode cL_of 17 = .ok (.iconst 0, 1) := by decide +kernel
theorem dL_of_18 : decode cL_of 18 = .ok (.ireturn, 1) := by decide +kernel
theorem dL_row_0 : decode cL_row 0 = .ok (.aload_n 2, 1) := by decide +kernel
theorem dL_row_1 : decode cL_row 1 = .ok (.iconst 0, 1) := by decide +kernel
theorem dL_row_2 : decode cL_row 2 = .ok (.aload_n 0, 1) := by decide +kernel
theorem dL_row_3 : decode cL_row 3 = .ok (.iload_n 1, 1) := by decide +kernel
theorem dL_row_4 : decode cL_row 4 = .ok (.invokevirtual 18, 3) := by decide +kernel
theorem dL_row_7 : decode cL_row 7 = .ok (.lastore, 1) := by decide +kernel
theorem dL_row_8 : decode cL_row 8 = .ok (.goto 6, 3) := by decide +kernel
theorem dL_row_11 : decode cL_row 11 = .ok (.astore_n 3, 1) := by decide +kernel
theorem dL_row_12 : decode cL_row 12 = .ok (.iconst 1, 1) := by decide +kernel
theorem dL_row_13 : decode cL_row 13 = .ok (.ireturn, 1) := by decide +kernel
theorem dL_row_14 : decode cL_row 14 = .ok (.iconst 0, 1) := by decide +kernel
theorem dL_row_15 : decode cL_row 15 = .ok (.ireturn, 1) := by decide +kernel
theorem S_Ldoor {d : Nat} {p0 p1 : Int32} {μ : m2M} {Q1 : Option Value → m2M → Prop} {X1 : m2M → Prop} (hM : m2_MX d yX11_door cX11_door 3 (some .int) [.ref kC, .int p0, .int p1] μ Q1 X1) :
    m2_MY (d + 1) yL_door cL_door 5 (some .int) [(0, 10, 13, 13)] [.ref kC, .int p0, .int p1, .ref kOut] μ (fun r μ' => (∃ (v : Int32) (μ1 : m2M), Q1 (some (.int v)) μ1 ∧ r = some (.int 0) ∧ μ' = m2_sl μ1 kOut (vp_updL (μ1.2 kOut) 0 v.toInt64)) ∨ (X1 μ' ∧ r = some (.int 1))) := by
  refine m2_MY.intro (ls := [.ref kC, .int p0, .int p1, .ref kOut, .null]) (by decide +kernel) rfl (ble rfl) (fun κ κ' h => ?_)
  have hB := h.b
  have hR := h.rl
  refine m2_aload_n hB dL_door_0 rfl ?_
  refine m2_iconst hB dL_door_1 (v := 0) (by decide) ?_
  refine m2_aload_n hB dL_door_2 rfl ?_
  refine m2_iload_n hB dL_door_3 rfl ?_
  refine m2_iload_n hB dL_door_4 rfl ?_
  refine m2_invX h (as := [.int p0, .int p1]) (st := [.int 0, .ref kOut]) dL_door_5 mv_L_7 rfl sh_kC rfl (by decide) rfl hM ⟨by decide, by decide⟩ (i := 4) (Or.inl ⟨rfl, dL_door_13⟩) (by decide) rfl (fun r μ1 hr hq => ?_) (fun μ1 hx => ?_)
  · obtain ⟨x, rfl⟩ := hr
    refine m2_i2l hR.b dL_door_8 ?_
    refine m2_last hR.b dL_door_9 sh_kOut (by unfold vp_in; decide) ?_
    refine m2_goto hR.b dL_door_10 (tgt := 17) (by decide) ?_
    refine m2_iconst hR.b dL_door_17 (v := 0) (by decide) ?_
    exact m2_iret hR dL_door_18 (Or.inl ⟨x, μ1, hq, rfl, rfl⟩)
  · refine m2_iconst hR.b dL_door_15 (v := 1) (by decide) ?_
    exact m2_iret hR dL_door_16 (Or.inr ⟨hx, rfl⟩)
theorem S_Lof {d : Nat} {p0 p1 : Int32} {μ : m2M} {Q1 : Option Value → m2M → Prop} {X1 : m2M → Prop} (hM : m2_MX d yX11_of cX11_of 3 (some .int) [.ref kC, .int p0, .int p1] μ Q1 X1) :
    m2_MY (d + 1) yL_of cL_of 5 (some .int) [(0, 10, 13, 13)] [.ref kC, .int p0, .int p1, .ref kOut] μ (fun r μ' => (∃ (v : Int32) (μ1 : m2M), Q1 (some (.int v)) μ1 ∧ r = some (.int 0) ∧ μ' = m2_sl μ1 kOut (vp_updL (μ1.2 kOut) 0 v.toInt64)) ∨ (X1 μ' ∧ r = some (.int 1))) := by
  refine m2_MY.intro (ls := [.ref kC, .int p0, .int p1, .ref kOut, .null]) (by decide +kernel) rfl (ble rfl) (fun κ κ' h => ?_)
  have hB := h.b
  have hR := h.rl
  refine m2_aload_n hB dL_of_0 rfl ?_
  refine m2_iconst hB dL_of_1 (v := 0) (by decide) ?_
  refine m2_aload_n hB dL_of_2 rfl ?_
  refine m2_iload_n hB dL_of_3 rfl ?_
  refine m2_iload_n hB dL_of_4 rfl ?_
  refine m2_invX h (as := [.int p0, .int p1]) (st := [.int 0, .ref kOut]) dL_of_5 mv_L_15 rfl sh_kC rfl (by decide) rfl hM ⟨by decide, by decide⟩ (i := 4) (Or.inl ⟨rfl, dL_of_13⟩) (by decide) rfl (fun r μ1 hr hq => ?_) (fun μ1 hx => ?_)
  · obtain ⟨x, rfl⟩ := hr
    refine m2_i2l hR.b dL_of_8 ?_
    refine m2_last hR.b dL_of_9 sh_kOut (by unfold vp_in; decide) ?_
    refine m2_goto hR.b dL_of_10 (tgt := 17) (by decide) ?_
    refine m2_iconst hR.b dL_of_17 (v := 0) (by decide) ?_
    exact m2_iret hR dL_of_18 (Or.inl ⟨x, μ1, hq, rfl, rfl⟩)
  · refine m2_iconst hR.b dL_of_15 (v := 1) (by decide) ?_
    exact m2_iret hR dL_of_16 (Or.inr ⟨hx, rfl⟩)
theorem S_Lrow {d : Nat} {p0 : Int32} {μ : m2M} {Q1 : Option Value → m2M → Prop} {X1 : m2M → Prop} (hM : m2_MX d yX11_row cX11_row 2 (some .long) [.ref kC, .int p0] μ Q1 X1) :
    m2_MY (d + 1) yL_row cL_row 4 (some .int) [(0, 8, 11, 13)] [.ref kC, .int p0, .ref kOut] μ (fun r μ' => (∃ (v : Int64) (μ1 : m2M), Q1 (some (.long v)) μ1 ∧ r = some (.int 0) ∧ μ' = m2_sl μ1 kOut (vp_updL (μ1.2 kOut) 0 v)) ∨ (X1 μ' ∧ r = some (.int 1))) := by
  refine m2_MY.intro (ls := [.ref kC, .int p0, .ref kOut, .null]) (by decide +kernel) rfl (ble rfl) (fun κ κ' h => ?_)
  have hB := h.b
  have hR := h.rl
  refine m2_aload_n hB dL_row_0 rfl ?_
  refine m2_iconst hB dL_row_1 (v := 0) (by decide) ?_
  refine m2_aload_n hB dL_row_2 rfl ?_
  refine m2_iload_n hB dL_row_3 rfl ?_
  refine m2_invX h (as := [.int p0]) (st := [.int 0, .ref kOut]) dL_row_4 mv_L_18 rfl sh_kC rfl (by decide) rfl hM ⟨by decide, by decide⟩ (i := 3) (Or.inr ⟨rfl, 3, rfl, dL_row_11⟩) (by decide) rfl (fun r μ1 hr hq => ?_) (fun μ1 hx => ?_)
  · obtain ⟨x, rfl⟩ := hr
    refine m2_last hR.b dL_row_7 sh_kOut (by unfold vp_in; decide) ?_
    refine m2_goto hR.b dL_row_8 (tgt := 14) (by decide) ?_
    refine m2_iconst hR.b dL_row_14 (v := 0) (by decide) ?_
    exact m2_iret hR dL_row_15 (Or.inl ⟨x, μ1, hq, rfl, rfl⟩)
  · refine m2_iconst hR.b dL_row_12 (v := 1) (by decide) ?_
    exact m2_iret hR dL_row_13 (Or.inr ⟨hx, rfl⟩)
