def wA_X0 : List m3C := [(0, 11, [(3, 0), (0, 0), (4, 0), (0, 0), (5, 0), (6, 0), (7, 0), (0, 0), (8, 0), (9, 0), (1, 0), (1, 0), (1, 0), (1, 0), (1, 0), (1, 0), (1, 0), (1, 0), (1, 0), (1, 0)]),
  (2, 80, []),
  (4, 16, []),
  (3, 20, []),
  (3, 20, []),
  (3, 20, []),
  (4, 61, []),
  (6, 4, [(1, 0), (1, 0), (1, 0), (1, 0)]),
  (0, 0, [(1, 0), (1, 0), (1, 0), (1, 0), (1, 0), (1, 0), (0, 0), (0, 0)])]
def wB_X0 : List m3C := [(0, 11, [(3, 0), (0, 0), (4, 0), (0, 0), (5, 0), (6, 0), (7, 0), (0, 0), (8, 0), (9, 0), (1, 0), (1, 0), (1, 0), (1, 0), (1, 0), (1, 0), (1, 0), (1, 0), (1, 0), (1, 0)]),
  (2, 80, []),
  (4, 16, []),
  (3, 20, []),
  (3, 20, []),
  (3, 20, []),
  (4, 61, []),
  (6, 4, [(1, 0), (1, 0), (1, 0), (1, 0)]),
  (0, 0, [(11, 0), (12, 0), (13, 0), (14, 0), (15, 0), (16, 0), (0, 0), (0, 0)]),
  (3, 20, []),
  (3, 20, []),
  (5, 20, []),
  (3, 20, []),
  (3, 20, []),
  (3, 20, [])]
theorem dX0_init_0 : decode cX0_init 0 = .ok (.aload_n 0, 1) := by decide +kernel
theorem dX0_init_1 : decode cX0_init 1 = .ok (.invokespecial 3, 3) := by decide +kernel
theorem dX0_init_4 : decode cX0_init 4 = .ok (.aload_n 0, 1) := by decide +kernel
theorem dX0_init_5 : decode cX0_init 5 = .ok (.bipush 20, 2) := by decide +kernel
theorem dX0_init_7 : decode cX0_init 7 = .ok (.newarray .int, 2) := by decide +kernel
theorem dX0_init_9 : decode cX0_init 9 = .ok (.putfield 9, 3) := by decide +kernel
theorem dX0_init_12 : decode cX0_init 12 = .ok (.aload_n 0, 1) := by decide +kernel
theorem dX0_init_13 : decode cX0_init 13 = .ok (.bipush 20, 2) := by decide +kernel
theorem dX0_init_15 : decode cX0_init 15 = .ok (.newarray .int, 2) := by decide +kernel
theorem dX0_init_17 : decode cX0_init 17 = .ok (.putfield 15, 3) := by decide +kernel
theorem dX0_init_20 : decode cX0_init 20 = .ok (.aload_n 0, 1) := by decide +kernel
theorem dX0_init_21 : decode cX0_init 21 = .ok (.bipush 20, 2) := by decide +kernel
theorem dX0_init_23 : decode cX0_init 23 = .ok (.newarray .boolean, 2) := by decide +kernel
theorem dX0_init_25 : decode cX0_init 25 = .ok (.putfield 18, 3) := by decide +kernel
theorem dX0_init_28 : decode cX0_init 28 = .ok (.aload_n 0, 1) := by decide +kernel
theorem dX0_init_29 : decode cX0_init 29 = .ok (.bipush 20, 2) := by decide +kernel
theorem dX0_init_31 : decode cX0_init 31 = .ok (.newarray .int, 2) := by decide +kernel
theorem dX0_init_33 : decode cX0_init 33 = .ok (.putfield 22, 3) := by decide +kernel
theorem dX0_init_36 : decode cX0_init 36 = .ok (.aload_n 0, 1) := by decide +kernel
theorem dX0_init_37 : decode cX0_init 37 = .ok (.bipush 20, 2) := by decide +kernel
theorem dX0_init_39 : decode cX0_init 39 = .ok (.newarray .int, 2) := by decide +kernel
theorem dX0_init_41 : decode cX0_init 41 = .ok (.putfield 25, 3) := by decide +kernel
theorem dX0_init_44 : decode cX0_init 44 = .ok (.aload_n 0, 1) := by decide +kernel
theorem dX0_init_45 : decode cX0_init 45 = .ok (.bipush 20, 2) := by decide +kernel
theorem dX0_init_47 : decode cX0_init 47 = .ok (.newarray .int, 2) := by decide +kernel
theorem dX0_init_49 : decode cX0_init 49 = .ok (.putfield 28, 3) := by decide +kernel
theorem dX0_init_52 : decode cX0_init 52 = .ok (.return_, 1) := by decide +kernel
set_option maxRecDepth 100000 in
set_option maxHeartbeats 4000000 in
theorem K_X0 {d : Nat} : m3_MT (d + 1) yX0_init cX0_init 1 [.ref 8] wA_X0 wB_X0 := by
  refine m3_MT.intro (ls := [.ref 8]) (by decide) rfl rfl (by decide) (fun κ h => ?_)
  have hB := h.b
  refine m3_aload_n hB dX0_init_0 rfl ?_
  refine m3_objInit hB ol_X0_3 oi_obj oc_obj (by decide) dX0_init_1 ?_
  refine m3_aload_n hB dX0_init_4 rfl ?_
  refine m3_bipush hB dX0_init_5 (v := 20) (by decide) ?_
  refine m3_newI hB (N := 20) (c1 := 9) (by decide +kernel) (by decide) dX0_init_7 ?_
  refine m3_putF hB (c0 := 8) (vs := [(1, 0), (1, 0), (1, 0), (1, 0), (1, 0), (1, 0), (0, 0), (0, 0)]) dX0_init_9 fl_X0_9 (fun _ _ _ h => by cases h; rfl) (fun _ => ⟨rfl, rfl⟩) (by decide +kernel) (by decide +kernel) (by decide +kernel) ?_
  refine m3_aload_n hB dX0_init_12 rfl ?_
  refine m3_bipush hB dX0_init_13 (v := 20) (by decide) ?_
  refine m3_newI hB (N := 20) (c1 := 10) (by decide +kernel) (by decide) dX0_init_15 ?_
  refine m3_putF hB (c0 := 8) (vs := [(11, 0), (1, 0), (1, 0), (1, 0), (1, 0), (1, 0), (0, 0), (0, 0)]) dX0_init_17 fl_X0_15 (fun _ _ _ h => by cases h; rfl) (fun _ => ⟨rfl, rfl⟩) (by decide +kernel) (by decide +kernel) (by decide +kernel) ?_
  refine m3_aload_n hB dX0_init_20 rfl ?_
  refine m3_bipush hB dX0_init_21 (v := 20) (by decide) ?_
  refine m3_newZ hB (N := 20) (c1 := 11) (by decide +kernel) (by decide) dX0_init_23 ?_
  refine m3_putF hB (c0 := 8) (vs := [(11, 0), (12, 0), (1, 0), (1, 0), (1, 0), (1, 0), (0, 0), (0, 0)]) dX0_init_25 fl_X0_18 (fun _ _ _ h => by cases h; rfl) (fun _ => ⟨rfl, rfl⟩) (by decide +kernel) (by decide +kernel) (by decide +kernel) ?_
  refine m3_aload_n hB dX0_init_28 rfl ?_
  refine m3_bipush hB dX0_init_29 (v := 20) (by decide) ?_
  refine m3_newI hB (N := 20) (c1 := 12) (by decide +kernel) (by decide) dX0_init_31 ?_
  refine m3_putF hB (c0 := 8) (vs := [(11, 0), (12, 0), (13, 0), (1, 0), (1, 0), (1, 0), (0, 0), (0, 0)]) dX0_init_33 fl_X0_22 (fun _ _ _ h => by cases h; rfl) (fun _ => ⟨rfl, rfl⟩) (by decide +kernel) (by decide +kernel) (by decide +kernel) ?_
  refine m3_aload_n hB dX0_init_36 rfl ?_
  refine m3_bipush hB dX0_init_37 (v := 20) (by decide) ?_
  refine m3_newI hB (N := 20) (c1 := 13) (by decide +kernel) (by decide) dX0_init_39 ?_
  refine m3_putF hB (c0 := 8) (vs := [(11, 0), (12, 0), (13, 0), (14, 0), (1, 0), (1, 0), (0, 0), (0, 0)]) dX0_init_41 fl_X0_25 (fun _ _ _ h => by cases h; rfl) (fun _ => ⟨rfl, rfl⟩) (by decide +kernel) (by decide +kernel) (by decide +kernel) ?_
  refine m3_aload_n hB dX0_init_44 rfl ?_
  refine m3_bipush hB dX0_init_45 (v := 20) (by decide) ?_
  refine m3_newI hB (N := 20) (c1 := 14) (by decide +kernel) (by decide) dX0_init_47 ?_
  refine m3_putF hB (c0 := 8) (vs := [(11, 0), (12, 0), (13, 0), (14, 0), (15, 0), (1, 0), (0, 0), (0, 0)]) dX0_init_49 fl_X0_28 (fun _ _ _ h => by cases h; rfl) (fun _ => ⟨rfl, rfl⟩) (by decide +kernel) (by decide +kernel) (by decide +kernel) ?_
  refine m3_to (μ' := wB_X0) (by decide +kernel) ?_
  exact m3_vret h dX0_init_52
def wA_X6 : List m3C := [(0, 11, [(3, 0), (0, 0), (4, 0), (0, 0), (5, 0), (6, 0), (7, 0), (0, 0), (8, 0), (9, 0), (10, 0), (1, 0), (1, 0), (1, 0), (1, 0), (1, 0), (1, 0), (1, 0), (1, 0), (1, 0)]),
  (2, 80, []),
  (4, 16, []),
  (3, 20, []),
  (3, 20, []),
  (3, 20, []),
  (4, 61, []),
  (6, 4, [(1, 0), (1, 0), (1, 0), (1, 0)]),
  (0, 0, [(11, 0), (12, 0), (13, 0), (14, 0), (15, 0), (16, 0), (0, 0), (0, 0)]),
  (3, 20, []),
  (3, 20, []),
  (5, 20, []),
  (3, 20, []),
  (3, 20, []),
  (3, 20, []),
  (0, 6, [(1, 0), (1, 0), (1, 0), (1, 0), (1, 0), (1, 0), (1, 0), (1, 0), (0, 0)])]
def wB_X6 : List m3C := [(0, 11, [(3, 0), (0, 0), (4, 0), (0, 0), (5, 0), (6, 0), (7, 0), (0, 0), (8, 0), (9, 0), (10, 0), (1, 0), (1, 0), (1, 0), (1, 0), (1, 0), (1, 0), (1, 0), (1, 0), (1, 0)]),
  (2, 80, []),
  (4, 16, []),
  (3, 20, []),
  (3, 20, []),
  (3, 20, []),
  (4, 61, []),
  (6, 4, [(1, 0), (1, 0), (1, 0), (1, 0)]),
  (0, 0, [(11, 0), (12, 0), (13, 0), (14, 0), (15, 0), (16, 0), (0, 0), (0, 0)]),
  (3, 20, []),
  (3, 20, []),
  (5, 20, []),
  (3, 20, []),
  (3, 20, []),
  (3, 20, []),
  (0, 6, [(18, 0), (19, 0), (20, 0), (21, 0), (22, 0), (23, 0), (24, 0), (25, 0), (0, 0)]),
  (3, 8, []),
  (3, 8, []),
  (5, 8, []),
  (3, 8, []),
  (3, 8, []),
  (5, 8, []),
  (5, 8, []),
  (5, 8, [])]
theorem dX6_init_0 : decode cX6_init 0 = .ok (.aload_n 0, 1) := by decide +kernel
theorem dX6_init_1 : decode cX6_init 1 = .ok (.invokespecial 3, 3) := by decide +kernel
theorem dX6_init_4 : decode cX6_init 4 = .ok (.aload_n 0, 1) := by decide +kernel
theorem dX6_init_5 : decode cX6_init 5 = .ok (.bipush 8, 2) := by decide +kernel
theorem dX6_init_7 : decode cX6_init 7 = .ok (.newarray .int, 2) := by decide +kernel
theorem dX6_init_9 : decode cX6_init 9 = .ok (.putfield 9, 3) := by decide +kernel
theorem dX6_init_12 : decode cX6_init 12 = .ok (.aload_n 0, 1) := by decide +kernel
theorem dX6_init_13 : decode cX6_init 13 = .ok (.bipush 8, 2) := by decide +kernel
theorem dX6_init_15 : decode cX6_init 15 = .ok (.newarray .int, 2) := by decide +kernel
theorem dX6_init_17 : decode cX6_init 17 = .ok (.putfield 15, 3) := by decide +kernel
theorem dX6_init_20 : decode cX6_init 20 = .ok (.aload_n 0, 1) := by decide +kernel
theorem dX6_init_21 : decode cX6_init 21 = .ok (.bipush 8, 2) := by decide +kernel
theorem dX6_init_23 : decode cX6_init 23 = .ok (.newarray .boolean, 2) := by decide +kernel
theorem dX6_init_25 : decode cX6_init 25 = .ok (.putfield 18, 3) := by decide +kernel
theorem dX6_init_28 : decode cX6_init 28 = .ok (.aload_n 0, 1) := by decide +kernel
theorem dX6_init_29 : decode cX6_init 29 = .ok (.bipush 8, 2) := by decide +kernel
theorem dX6_init_31 : decode cX6_init 31 = .ok (.newarray .int, 2) := by decide +kernel
theorem dX6_init_33 : decode cX6_init 33 = .ok (.putfield 22, 3) := by decide +kernel
theorem dX6_init_36 : decode cX6_init 36 = .ok (.aload_n 0, 1) := by decide +kernel
theorem dX6_init_37 : decode cX6_init 37 = .ok (.bipush 8, 2) := by decide +kernel
theorem dX6_init_39 : decode cX6_init 39 = .ok (.newarray .int, 2) := by decide +kernel
theorem dX6_init_41 : decode cX6_init 41 = .ok (.putfield 25, 3) := by decide +kernel
theorem dX6_init_44 : decode cX6_init 44 = .ok (.aload_n 0, 1) := by decide +kernel
theorem dX6_init_45 : decode cX6_init 45 = .ok (.bipush 8, 2) := by decide +kernel
theorem dX6_init_47 : decode cX6_init 47 = .ok (.newarray .boolean, 2) := by decide +kernel
theorem dX6_init_49 : decode cX6_init 49 = .ok (.putfield 28, 3) := by decide +kernel
theorem dX6_init_52 : decode cX6_init 52 = .ok (.aload_n 0, 1) := by decide +kernel
theorem dX6_init_53 : decode cX6_init 53 = .ok (.bipush 8, 2) := by decide +kernel
theorem dX6_init_55 : decode cX6_init 55 = .ok (.newarray .boolean, 2) := by decide +kernel
theorem dX6_init_57 : decode cX6_init 57 = .ok (.putfield 31, 3) := by decide +kernel
theorem dX6_init_60 : decode cX6_init 60 = .ok (.aload_n 0, 1) := by decide +kernel
theorem dX6_init_61 : decode cX6_init 61 = .ok (.bipush 8, 2) := by decide +kernel
theorem dX6_init_63 : decode cX6_init 63 = .ok (.newarray .boolean, 2) := by decide +kernel
theorem dX6_init_65 : decode cX6_init 65 = .ok (.putfield 34, 3) := by decide +kernel
theorem dX6_init_68 : decode cX6_init 68 = .ok (.return_, 1) := by decide +kernel
set_option maxRecDepth 100000 in
set_option maxHeartbeats 4000000 in
theorem K_X6 {d : Nat} : m3_MT (d + 1) yX6_init cX6_init 1 [.ref 15] wA_X6 wB_X6 := by
  refine m3_MT.intro (ls := [.ref 15]) (by decide) rfl rfl (by decide) (fun κ h => ?_)
  have hB := h.b
  refine m3_aload_n hB dX6_init_0 rfl ?_
  refine m3_objInit hB ol_X6_3 oi_obj oc_obj (by decide) dX6_init_1 ?_
  refine m3_aload_n hB dX6_init_4 rfl ?_
  refine m3_bipush hB dX6_init_5 (v := 8) (by decide) ?_
  refine m3_newI hB (N := 8) (c1 := 16) (by decide +kernel) (by decide) dX6_init_7 ?_
  refine m3_putF hB (c0 := 15) (vs := [(1, 0), (1, 0), (1, 0), (1, 0), (1, 0), (1, 0), (1, 0), (1, 0), (0, 0)]) dX6_init_9 fl_X6_9 (fun _ _ _ h => by cases h; rfl) (fun _ => ⟨rfl, rfl⟩) (by decide +kernel) (by decide +kernel) (by decide +kernel) ?_
  refine m3_aload_n hB dX6_init_12 rfl ?_
  refine m3_bipush hB dX6_init_13 (v := 8) (by decide) ?_
  refine m3_newI hB (N := 8) (c1 := 17) (by decide +kernel) (by decide) dX6_init_15 ?_
  refine m3_putF hB (c0 := 15) (vs := [(18, 0), (1, 0), (1, 0), (1, 0), (1, 0), (1, 0), (1, 0), (1, 0), (0, 0)]) dX6_init_17 fl_X6_15 (fun _ _ _ h => by cases h; rfl) (fun _ => ⟨rfl, rfl⟩) (by decide +kernel) (by decide +kernel) (by decide +kernel) ?_
  refine m3_aload_n hB dX6_init_20 rfl ?_
  refine m3_bipush hB dX6_init_21 (v := 8) (by decide) ?_
  refine m3_newZ hB (N := 8) (c1 := 18) (by decide +kernel) (by decide) dX6_init_23 ?_
  refine m3_putF hB (c0 := 15) (vs := [(18, 0), (19, 0), (1, 0), (1, 0), (1, 0), (1, 0), (1, 0), (1, 0), (0, 0)]) dX6_init_25 fl_X6_18 (fun _ _ _ h => by cases h; rfl) (fun _ => ⟨rfl, rfl⟩) (by decide +kernel) (by decide +kernel) (by decide +kernel) ?_
  refine m3_aload_n hB dX6_init_28 rfl ?_
  refine m3_bipush hB dX6_init_29 (v := 8) (by decide) ?_
  refine m3_newI hB (N := 8) (c1 := 19) (by decide +kernel) (by decide) dX6_init_31 ?_
  refine m3_putF hB (c0 := 15) (vs := [(18, 0), (19, 0), (20, 0), (1, 0), (1, 0), (1, 0), (1, 0), (1, 0), (0, 0)]) dX6_init_33 fl_X6_22 (fun _ _ _ h => by cases h; rfl) (fun _ => ⟨rfl, rfl⟩) (by decide +kernel) (by decide +kernel) (by decide +kernel) ?_
  refine m3_aload_n hB dX6_init_36 rfl ?_
  refine m3_bipush hB dX6_init_37 (v := 8) (by decide) ?_
  refine m3_newI hB (N := 8) (c1 := 20) (by decide +kernel) (by decide) dX6_init_39 ?_
  refine m3_putF hB (c0 := 15) (vs := [(18, 0), (19, 0), (20, 0), (21, 0), (1, 0), (1, 0), (1, 0), (1, 0), (0, 0)]) dX6_init_41 fl_X6_25 (fun _ _ _ h => by cases h; rfl) (fun _ => ⟨rfl, rfl⟩) (by decide +kernel) (by decide +kernel) (by decide +kernel) ?_
  refine m3_aload_n hB dX6_init_44 rfl ?_
  refine m3_bipush hB dX6_init_45 (v := 8) (by decide) ?_
  refine m3_newZ hB (N := 8) (c1 := 21) (by decide +kernel) (by decide) dX6_init_47 ?_
  refine m3_putF hB (c0 := 15) (vs := [(18, 0), (19, 0), (20, 0), (21, 0), (22, 0), (1, 0), (1, 0), (1, 0), (0, 0)]) dX6_init_49 fl_X6_28 (fun _ _ _ h => by cases h; rfl) (fun _ => ⟨rfl, rfl⟩) (by decide +kernel) (by decide +kernel) (by decide +kernel) ?_
  refine m3_aload_n hB dX6_init_52 rfl ?_
  refine m3_bipush hB dX6_init_53 (v := 8) (by decide) ?_
  refine m3_newZ hB (N := 8) (c1 := 22) (by decide +kernel) (by decide) dX6_init_55 ?_
  refine m3_putF hB (c0 := 15) (vs := [(18, 0), (19, 0), (20, 0), (21, 0), (22, 0), (23, 0), (1, 0), (1, 0), (0, 0)]) dX6_init_57 fl_X6_31 (fun _ _ _ h => by cases h; rfl) (fun _ => ⟨rfl, rfl⟩) (by decide +kernel) (by decide +kernel) (by decide +kernel) ?_
  refine m3_aload_n hB dX6_init_60 rfl ?_
  refine m3_bipush hB dX6_init_61 (v := 8) (by decide) ?_
  refine m3_newZ hB (N := 8) (c1 := 23) (by decide +kernel) (by decide) dX6_init_63 ?_
  refine m3_putF hB (c0 := 15) (vs := [(18, 0), (19, 0), (20, 0), (21, 0), (22, 0), (23, 0), (24, 0), (1, 0), (0, 0)]) dX6_init_65 fl_X6_34 (fun _ _ _ h => by cases h; rfl) (fun _ => ⟨rfl, rfl⟩) (by decide +kernel) (by decide +kernel) (by decide +kernel) ?_
  refine m3_to (μ' := wB_X6) (by decide +kernel) ?_
  exact m3_vret h dX6_init_68
def wA_X2 : List m3C := [(0, 11, [(3, 0), (0, 0), (4, 0), (0, 0), (5, 0), (6, 0), (7, 0), (0, 0), (8, 0), (9, 0), (10, 0), (17, 0), (1, 0), (1, 0), (1, 0), (1, 0), (1, 0), (1, 0), (1, 0), (1, 0)]),
  (2, 80, []),
  (4, 16, []),
  (3, 20, []),
  (3, 20, []),
  (3, 20, []),
  (4, 61, []),
  (6, 4, [(1, 0), (1, 0), (1, 0), (1, 0)]),
  (0, 0, [(11, 0), (12, 0), (13, 0), (14, 0), (15, 0), (16, 0), (0, 0), (0, 0)]),
  (3, 20, []),
  (3, 20, []),
  (5, 20, []),
  (3, 20, []),
  (3, 20, []),
  (3, 20, []),
  (0, 6, [(18, 0), (19, 0), (20, 0), (21, 0), (22, 0), (23, 0), (24, 0), (25, 0), (0, 0)]),
  (3, 8, []),
  (3, 8, []),
  (5, 8, []),
  (3, 8, []),
  (3, 8, []),
  (5, 8, []),
  (5, 8, []),
  (5, 8, []),
  (0, 2, [(1, 0), (1, 0), (1, 0), (0, 0), (0, 0), (0, 0), (0, 0), (0, 0)])]
def wB_X2 : List m3C := [(0, 11, [(3, 0), (0, 0), (4, 0), (0, 0), (5, 0), (6, 0), (7, 0), (0, 0), (8, 0), (9, 0), (10, 0), (17, 0), (1, 0), (1, 0), (1, 0), (1, 0), (1, 0), (1, 0), (1, 0), (1, 0)]),
  (2, 80, []),
  (4, 16, []),
  (3, 20, []),
  (3, 20, []),
  (3, 20, []),
  (4, 61, []),
  (6, 4, [(1, 0), (1, 0), (1, 0), (1, 0)]),
  (0, 0, [(11, 0), (12, 0), (13, 0), (14, 0), (15, 0), (16, 0), (0, 0), (0, 0)]),
  (3, 20, []),
  (3, 20, []),
  (5, 20, []),
  (3, 20, []),
  (3, 20, []),
  (3, 20, []),
  (0, 6, [(18, 0), (19, 0), (20, 0), (21, 0), (22, 0), (23, 0), (24, 0), (25, 0), (0, 0)]),
  (3, 8, []),
  (3, 8, []),
  (5, 8, []),
  (3, 8, []),
  (3, 8, []),
  (5, 8, []),
  (5, 8, []),
  (5, 8, []),
  (0, 2, [(3, 0), (10, 0), (17, 0), (0, 0), (0, 0), (0, 0), (0, 0), (0, 0)])]
theorem dX2_init_0 : decode cX2_init 0 = .ok (.aload_n 0, 1) := by decide +kernel
theorem dX2_init_1 : decode cX2_init 1 = .ok (.invokespecial 3, 3) := by decide +kernel
theorem dX2_init_4 : decode cX2_init 4 = .ok (.aload_n 0, 1) := by decide +kernel
theorem dX2_init_5 : decode cX2_init 5 = .ok (.aload_n 1, 1) := by decide +kernel
theorem dX2_init_6 : decode cX2_init 6 = .ok (.putfield 9, 3) := by decide +kernel
theorem dX2_init_9 : decode cX2_init 9 = .ok (.aload_n 0, 1) := by decide +kernel
theorem dX2_init_10 : decode cX2_init 10 = .ok (.aload_n 2, 1) := by decide +kernel
theorem dX2_init_11 : decode cX2_init 11 = .ok (.putfield 15, 3) := by decide +kernel
theorem dX2_init_14 : decode cX2_init 14 = .ok (.aload_n 0, 1) := by decide +kernel
theorem dX2_init_15 : decode cX2_init 15 = .ok (.aload_n 3, 1) := by decide +kernel
theorem dX2_init_16 : decode cX2_init 16 = .ok (.putfield 19, 3) := by decide +kernel
theorem dX2_init_19 : decode cX2_init 19 = .ok (.return_, 1) := by decide +kernel
set_option maxRecDepth 100000 in
set_option maxHeartbeats 4000000 in
theorem K_X2 {d : Nat} : m3_MT (d + 1) yX2_init cX2_init 4 [.ref 24, .ref 1, .ref 8, .ref 15] wA_X2 wB_X2 := by
  refine m3_MT.intro (ls := [.ref 24, .ref 1, .ref 8, .ref 15]) (by decide) rfl rfl (by decide) (fun κ h => ?_)
  have hB := h.b
  refine m3_aload_n hB dX2_init_0 rfl ?_
  refine m3_objInit hB ol_X2_3 oi_obj oc_obj (by decide) dX2_init_1 ?_
  refine m3_aload_n hB dX2_init_4 rfl ?_
  refine m3_aload_n hB dX2_init_5 rfl ?_
  refine m3_putF hB (c0 := 24) (vs := [(1, 0), (1, 0), (1, 0), (0, 0), (0, 0), (0, 0), (0, 0), (0, 0)]) dX2_init_6 fl_X2_9 (fun _ _ _ h => by cases h; rfl) (fun _ => ⟨rfl, rfl⟩) (by decide +kernel) (by decide +kernel) (by decide +kernel) ?_
  refine m3_aload_n hB dX2_init_9 rfl ?_
  refine m3_aload_n hB dX2_init_10 rfl ?_
  refine m3_putF hB (c0 := 24) (vs := [(3, 0), (1, 0), (1, 0), (0, 0), (0, 0), (0, 0), (0, 0), (0, 0)]) dX2_init_11 fl_X2_15 (fun _ _ _ h => by cases h; rfl) (fun _ => ⟨rfl, rfl⟩) (by decide +kernel) (by decide +kernel) (by decide +kernel) ?_
  refine m3_aload_n hB dX2_init_14 rfl ?_
  refine m3_aload_n hB dX2_init_15 rfl ?_
  refine m3_putF hB (c0 := 24) (vs := [(3, 0), (10, 0), (1, 0), (0, 0), (0, 0), (0, 0), (0, 0), (0, 0)]) dX2_init_16 fl_X2_19 (fun _ _ _ h => by cases h; rfl) (fun _ => ⟨rfl, rfl⟩) (by decide +kernel) (by decide +kernel) (by decide +kernel) ?_
  refine m3_to (μ' := wB_X2) (by decide +kernel) ?_
  exact m3_vret h dX2_init_19
def wA_X7 : List m3C := [(0, 11, [(3, 0), (0, 0), (4, 0), (0, 0), (5, 0), (6, 0), (7, 0), (0, 0), (8, 0), (9, 0), (10, 0), (17, 0), (26, 0), (1, 0), (1, 0), (1, 0), (1, 0), (1, 0), (1, 0), (1, 0)]),
  (2, 80, []),
  (4, 16, []),
  (3, 20, []),
  (3, 20, []),
  (3, 20, []),
  (4, 61, []),
  (6, 4, [(1, 0), (1, 0), (1, 0), (1, 0)]),
  (0, 0, [(11, 0), (12, 0), (13, 0), (14, 0), (15, 0), (16, 0), (0, 0), (0, 0)]),
  (3, 20, []),
  (3, 20, []),
  (5, 20, []),
  (3, 20, []),
  (3, 20, []),
  (3, 20, []),
  (0, 6, [(18, 0), (19, 0), (20, 0), (21, 0), (22, 0), (23, 0), (24, 0), (25, 0), (0, 0)]),
  (3, 8, []),
  (3, 8, []),
  (5, 8, []),
  (3, 8, []),
  (3, 8, []),
  (5, 8, []),
  (5, 8, []),
  (5, 8, []),
  (0, 2, [(3, 0), (10, 0), (17, 0), (0, 0), (0, 0), (0, 0), (0, 0), (0, 0)]),
  (0, 7, [(1, 0), (1, 0), (0, 0), (0, 0), (1, 0), (0, 0), (1, 0), (0, 0), (1, 0), (0, 0), (0, 0), (0, 0), (0, 0), (1, 0), (1, 0)])]
def wB_X7 : List m3C := [(0, 11, [(3, 0), (0, 0), (4, 0), (0, 0), (5, 0), (6, 0), (7, 0), (0, 0), (8, 0), (9, 0), (10, 0), (17, 0), (26, 0), (1, 0), (1, 0), (1, 0), (1, 0), (1, 0), (1, 0), (1, 0)]),
  (2, 80, []),
  (4, 16, []),
  (3, 20, []),
  (3, 20, []),
  (3, 20, []),
  (4, 61, []),
  (6, 4, [(1, 0), (1, 0), (1, 0), (1, 0)]),
  (0, 0, [(11, 0), (12, 0), (13, 0), (14, 0), (15, 0), (16, 0), (0, 0), (0, 0)]),
  (3, 20, []),
  (3, 20, []),
  (5, 20, []),
  (3, 20, []),
  (3, 20, []),
  (3, 20, []),
  (0, 6, [(18, 0), (19, 0), (20, 0), (21, 0), (22, 0), (23, 0), (24, 0), (25, 0), (0, 0)]),
  (3, 8, []),
  (3, 8, []),
  (5, 8, []),
  (3, 8, []),
  (3, 8, []),
  (5, 8, []),
  (5, 8, []),
  (5, 8, []),
  (0, 2, [(3, 0), (10, 0), (17, 0), (0, 0), (0, 0), (0, 0), (0, 0), (0, 0)]),
  (0, 7, [(3, 0), (28, 0), (0, 0), (0, 0), (29, 0), (0, 0), (30, 0), (0, 0), (31, 0), (0, 0), (0, 0), (0, 0), (0, 0), (32, 0), (33, 0)]),
  (3, 40, []),
  (3, 40, []),
  (3, 40, []),
  (5, 5, []),
  (3, 40, []),
  (3, 6, [])]
theorem dX7_init_0 : decode cX7_init 0 = .ok (.aload_n 0, 1) := by decide +kernel
theorem dX7_init_1 : decode cX7_init 1 = .ok (.invokespecial 1, 3) := by decide +kernel
theorem dX7_init_4 : decode cX7_init 4 = .ok (.aload_n 0, 1) := by decide +kernel
theorem dX7_init_5 : decode cX7_init 5 = .ok (.bipush 40, 2) := by decide +kernel
theorem dX7_init_7 : decode cX7_init 7 = .ok (.newarray .int, 2) := by decide +kernel
theorem dX7_init_9 : decode cX7_init 9 = .ok (.putfield 9, 3) := by decide +kernel
theorem dX7_init_12 : decode cX7_init 12 = .ok (.aload_n 0, 1) := by decide +kernel
theorem dX7_init_13 : decode cX7_init 13 = .ok (.bipush 40, 2) := by decide +kernel
theorem dX7_init_15 : decode cX7_init 15 = .ok (.newarray .int, 2) := by decide +kernel
theorem dX7_init_17 : decode cX7_init 17 = .ok (.putfield 13, 3) := by decide +kernel
theorem dX7_init_20 : decode cX7_init 20 = .ok (.aload_n 0, 1) := by decide +kernel
theorem dX7_init_21 : decode cX7_init 21 = .ok (.bipush 40, 2) := by decide +kernel
theorem dX7_init_23 : decode cX7_init 23 = .ok (.newarray .int, 2) := by decide +kernel
theorem dX7_init_25 : decode cX7_init 25 = .ok (.putfield 16, 3) := by decide +kernel
theorem dX7_init_28 : decode cX7_init 28 = .ok (.aload_n 0, 1) := by decide +kernel
theorem dX7_init_29 : decode cX7_init 29 = .ok (.iconst 5, 1) := by decide +kernel
theorem dX7_init_30 : decode cX7_init 30 = .ok (.newarray .boolean, 2) := by decide +kernel
theorem dX7_init_32 : decode cX7_init 32 = .ok (.putfield 19, 3) := by decide +kernel
theorem dX7_init_35 : decode cX7_init 35 = .ok (.aload_n 0, 1) := by decide +kernel
theorem dX7_init_36 : decode cX7_init 36 = .ok (.bipush 40, 2) := by decide +kernel
theorem dX7_init_38 : decode cX7_init 38 = .ok (.newarray .int, 2) := by decide +kernel
theorem dX7_init_40 : decode cX7_init 40 = .ok (.putfield 23, 3) := by decide +kernel
theorem dX7_init_43 : decode cX7_init 43 = .ok (.aload_n 0, 1) := by decide +kernel
theorem dX7_init_44 : decode cX7_init 44 = .ok (.bipush 6, 2) := by decide +kernel
theorem dX7_init_46 : decode cX7_init 46 = .ok (.newarray .int, 2) := by decide +kernel
theorem dX7_init_48 : decode cX7_init 48 = .ok (.putfield 26, 3) := by decide +kernel
theorem dX7_init_51 : decode cX7_init 51 = .ok (.aload_n 0, 1) := by decide +kernel
theorem dX7_init_52 : decode cX7_init 52 = .ok (.aload_n 1, 1) := by decide +kernel
theorem dX7_init_53 : decode cX7_init 53 = .ok (.putfield 29, 3) := by decide +kernel
theorem dX7_init_56 : decode cX7_init 56 = .ok (.return_, 1) := by decide +kernel
set_option maxRecDepth 100000 in
set_option maxHeartbeats 4000000 in
theorem K_X7 {d : Nat} : m3_MT (d + 1) yX7_init cX7_init 2 [.ref 25, .ref 1] wA_X7 wB_X7 := by
  refine m3_MT.intro (ls := [.ref 25, .ref 1]) (by decide) rfl rfl (by decide) (fun κ h => ?_)
  have hB := h.b
  refine m3_aload_n hB dX7_init_0 rfl ?_
  refine m3_objInit hB ol_X7_1 oi_obj oc_obj (by decide) dX7_init_1 ?_
  refine m3_aload_n hB dX7_init_4 rfl ?_
  refine m3_bipush hB dX7_init_5 (v := 40) (by decide) ?_
  refine m3_newI hB (N := 40) (c1 := 26) (by decide +kernel) (by decide) dX7_init_7 ?_
  refine m3_putF hB (c0 := 25) (vs := [(1, 0), (1, 0), (0, 0), (0, 0), (1, 0), (0, 0), (1, 0), (0, 0), (1, 0), (0, 0), (0, 0), (0, 0), (0, 0), (1, 0), (1, 0)]) dX7_init_9 fl_X7_9 (fun _ _ _ h => by cases h; rfl) (fun _ => ⟨rfl, rfl⟩) (by decide +kernel) (by decide +kernel) (by decide +kernel) ?_
  refine m3_aload_n hB dX7_init_12 rfl ?_
  refine m3_bipush hB dX7_init_13 (v := 40) (by decide) ?_
  refine m3_newI hB (N := 40) (c1 := 27) (by decide +kernel) (by decide) dX7_init_15 ?_
  refine m3_putF hB (c0 := 25) (vs := [(1, 0), (28, 0), (0, 0), (0, 0), (1, 0), (0, 0), (1, 0), (0, 0), (1, 0), (0, 0), (0, 0), (0, 0), (0, 0), (1, 0), (1, 0)]) dX7_init_17 fl_X7_13 (fun _ _ _ h => by cases h; rfl) (fun _ => ⟨rfl, rfl⟩) (by decide +kernel) (by decide +kernel) (by decide +kernel) ?_
  refine m3_aload_n hB dX7_init_20 rfl ?_
  refine m3_bipush hB dX7_init_21 (v := 40) (by decide) ?_
  refine m3_newI hB (N := 40) (c1 := 28) (by decide +kernel) (by decide) dX7_init_23 ?_
  refine m3_putF hB (c0 := 25) (vs := [(1, 0), (28, 0), (0, 0), (0, 0), (29, 0), (0, 0), (1, 0), (0, 0), (1, 0), (0, 0), (0, 0), (0, 0), (0, 0), (1, 0), (1, 0)]) dX7_init_25 fl_X7_16 (fun _ _ _ h => by cases h; rfl) (fun _ => ⟨rfl, rfl⟩) (by decide +kernel) (by decide +kernel) (by decide +kernel) ?_
  refine m3_aload_n hB dX7_init_28 rfl ?_
  refine m3_iconst hB dX7_init_29 (v := 5) (by decide) ?_
  refine m3_newZ hB (N := 5) (c1 := 29) (by decide +kernel) (by decide) dX7_init_30 ?_
  refine m3_putF hB (c0 := 25) (vs := [(1, 0), (28, 0), (0, 0), (0, 0), (29, 0), (0, 0), (30, 0), (0, 0), (1, 0), (0, 0), (0, 0), (0, 0), (0, 0), (1, 0), (1, 0)]) dX7_init_32 fl_X7_19 (fun _ _ _ h => by cases h; rfl) (fun _ => ⟨rfl, rfl⟩) (by decide +kernel) (by decide +kernel) (by decide +kernel) ?_
  refine m3_aload_n hB dX7_init_35 rfl ?_
  refine m3_bipush hB dX7_init_36 (v := 40) (by decide) ?_
  refine m3_newI hB (N := 40) (c1 := 30) (by decide +kernel) (by decide) dX7_init_38 ?_
  refine m3_putF hB (c0 := 25) (vs := [(1, 0), (28, 0), (0, 0), (0, 0), (29, 0), (0, 0), (30, 0), (0, 0), (31, 0), (0, 0), (0, 0), (0, 0), (0, 0), (1, 0), (1, 0)]) dX7_init_40 fl_X7_23 (fun _ _ _ h => by cases h; rfl) (fun _ => ⟨rfl, rfl⟩) (by decide +kernel) (by decide +kernel) (by decide +kernel) ?_
  refine m3_aload_n hB dX7_init_43 rfl ?_
  refine m3_bipush hB dX7_init_44 (v := 6) (by decide) ?_
  refine m3_newI hB (N := 6) (c1 := 31) (by decide +kernel) (by decide) dX7_init_46 ?_
  refine m3_putF hB (c0 := 25) (vs := [(1, 0), (28, 0), (0, 0), (0, 0), (29, 0), (0, 0), (30, 0), (0, 0), (31, 0), (0, 0), (0, 0), (0, 0), (0, 0), (32, 0), (1, 0)]) dX7_init_48 fl_X7_26 (fun _ _ _ h => by cases h; rfl) (fun _ => ⟨rfl, rfl⟩) (by decide +kernel) (by decide +kernel) (by decide +kernel) ?_
  refine m3_aload_n hB dX7_init_51 rfl ?_
  refine m3_aload_n hB dX7_init_52 rfl ?_
  refine m3_putF hB (c0 := 25) (vs := [(1, 0), (28, 0), (0, 0), (0, 0), (29, 0), (0, 0), (30, 0), (0, 0), (31, 0), (0, 0), (0, 0), (0, 0), (0, 0), (32, 0), (33, 0)]) dX7_init_53 fl_X7_29 (fun _ _ _ h => by cases h; rfl) (fun _ => ⟨rfl, rfl⟩) (by decide +kernel) (by decide +kernel) (by decide +kernel) ?_
  refine m3_to (μ' := wB_X7) (by decide +kernel) ?_
  exact m3_vret h dX7_init_56
