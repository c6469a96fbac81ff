def wA_X8 : List m3C := [(0, 11, [(3, 0), (0, 0), (4, 0), (0, 0), (5, 0), (6, 0), (7, 0), (0, 0), (8, 0), (9, 0), (10, 0), (17, 0), (26, 0), (27, 0), (1, 0), (1, 0), (1, 0), (1, 0), (1, 0), (1, 0)]),
  (2, 80, []),
  (4, 16, []),
  (3, 20, []),
  (3, 20, []),
  (3, 20, []),
  (4, 61, []),
  (6, 4, [(1, 0), (1, 0), (1, 0), (1, 0)]),
  (0, 0, [(11, 0), (12, 0), (13, 0), (14, 0), (15, 0), (16, 0), (0, 0), (0, 0)]),
  (3, 20, []),
  (3, 20, []),
  (5, 20, []),
  (3, 20, []),
  (3, 20, []),
  (3, 20, []),
  (0, 6, [(18, 0), (19, 0), (20, 0), (21, 0), (22, 0), (23, 0), (24, 0), (25, 0), (0, 0)]),
  (3, 8, []),
  (3, 8, []),
  (5, 8, []),
  (3, 8, []),
  (3, 8, []),
  (5, 8, []),
  (5, 8, []),
  (5, 8, []),
  (0, 2, [(3, 0), (10, 0), (17, 0), (0, 0), (0, 0), (0, 0), (0, 0), (0, 0)]),
  (0, 7, [(3, 0), (28, 0), (0, 0), (0, 0), (29, 0), (0, 0), (30, 0), (0, 0), (31, 0), (0, 0), (0, 0), (0, 0), (0, 0), (32, 0), (33, 0)]),
  (3, 40, []),
  (3, 40, []),
  (3, 40, []),
  (5, 5, []),
  (3, 40, []),
  (3, 6, []),
  (0, 8, [(1, 0), (1, 0), (1, 0), (1, 0), (1, 0)])]
def wB_X8 : List m3C := [(0, 11, [(3, 0), (0, 0), (4, 0), (0, 0), (5, 0), (6, 0), (7, 0), (0, 0), (8, 0), (9, 0), (10, 0), (17, 0), (26, 0), (27, 0), (1, 0), (1, 0), (1, 0), (1, 0), (1, 0), (1, 0)]),
  (2, 80, []),
  (4, 16, []),
  (3, 20, []),
  (3, 20, []),
  (3, 20, []),
  (4, 61, []),
  (6, 4, [(1, 0), (1, 0), (1, 0), (1, 0)]),
  (0, 0, [(11, 0), (12, 0), (13, 0), (14, 0), (15, 0), (16, 0), (0, 0), (0, 0)]),
  (3, 20, []),
  (3, 20, []),
  (5, 20, []),
  (3, 20, []),
  (3, 20, []),
  (3, 20, []),
  (0, 6, [(18, 0), (19, 0), (20, 0), (21, 0), (22, 0), (23, 0), (24, 0), (25, 0), (0, 0)]),
  (3, 8, []),
  (3, 8, []),
  (5, 8, []),
  (3, 8, []),
  (3, 8, []),
  (5, 8, []),
  (5, 8, []),
  (5, 8, []),
  (0, 2, [(3, 0), (10, 0), (17, 0), (0, 0), (0, 0), (0, 0), (0, 0), (0, 0)]),
  (0, 7, [(3, 0), (28, 0), (0, 0), (0, 0), (29, 0), (0, 0), (30, 0), (0, 0), (31, 0), (0, 0), (0, 0), (0, 0), (0, 0), (32, 0), (33, 0)]),
  (3, 40, []),
  (3, 40, []),
  (3, 40, []),
  (5, 5, []),
  (3, 40, []),
  (3, 6, []),
  (0, 8, [(10, 0), (35, 0), (36, 0), (37, 0), (38, 0)]),
  (3, 20, []),
  (3, 12, []),
  (3, 12, []),
  (3, 12, [])]
theorem dX8_init_0 : decode cX8_init 0 = .ok (.aload_n 0, 1) := by decide +kernel
theorem dX8_init_1 : decode cX8_init 1 = .ok (.invokespecial 3, 3) := by decide +kernel
theorem dX8_init_4 : decode cX8_init 4 = .ok (.aload_n 0, 1) := by decide +kernel
theorem dX8_init_5 : decode cX8_init 5 = .ok (.bipush 20, 2) := by decide +kernel
theorem dX8_init_7 : decode cX8_init 7 = .ok (.newarray .int, 2) := by decide +kernel
theorem dX8_init_9 : decode cX8_init 9 = .ok (.putfield 9, 3) := by decide +kernel
theorem dX8_init_12 : decode cX8_init 12 = .ok (.aload_n 0, 1) := by decide +kernel
theorem dX8_init_13 : decode cX8_init 13 = .ok (.bipush 12, 2) := by decide +kernel
theorem dX8_init_15 : decode cX8_init 15 = .ok (.newarray .int, 2) := by decide +kernel
theorem dX8_init_17 : decode cX8_init 17 = .ok (.putfield 15, 3) := by decide +kernel
theorem dX8_init_20 : decode cX8_init 20 = .ok (.aload_n 0, 1) := by decide +kernel
theorem dX8_init_21 : decode cX8_init 21 = .ok (.bipush 12, 2) := by decide +kernel
theorem dX8_init_23 : decode cX8_init 23 = .ok (.newarray .int, 2) := by decide +kernel
theorem dX8_init_25 : decode cX8_init 25 = .ok (.putfield 18, 3) := by decide +kernel
theorem dX8_init_28 : decode cX8_init 28 = .ok (.aload_n 0, 1) := by decide +kernel
theorem dX8_init_29 : decode cX8_init 29 = .ok (.bipush 12, 2) := by decide +kernel
theorem dX8_init_31 : decode cX8_init 31 = .ok (.newarray .int, 2) := by decide +kernel
theorem dX8_init_33 : decode cX8_init 33 = .ok (.putfield 21, 3) := by decide +kernel
theorem dX8_init_36 : decode cX8_init 36 = .ok (.aload_n 0, 1) := by decide +kernel
theorem dX8_init_37 : decode cX8_init 37 = .ok (.aload_n 1, 1) := by decide +kernel
theorem dX8_init_38 : decode cX8_init 38 = .ok (.putfield 24, 3) := by decide +kernel
theorem dX8_init_41 : decode cX8_init 41 = .ok (.return_, 1) := by decide +kernel
set_option maxRecDepth 100000 in
set_option maxHeartbeats 4000000 in
theorem K_X8 {d : Nat} : m3_MT (d + 1) yX8_init cX8_init 2 [.ref 32, .ref 8] wA_X8 wB_X8 := by
  refine m3_MT.intro (ls := [.ref 32, .ref 8]) (by decide) rfl rfl (by decide) (fun κ h => ?_)
  have hB := h.b
  refine m3_aload_n hB dX8_init_0 rfl ?_
  refine m3_objInit hB ol_X8_3 oi_obj oc_obj (by decide) dX8_init_1 ?_
  refine m3_aload_n hB dX8_init_4 rfl ?_
  refine m3_bipush hB dX8_init_5 (v := 20) (by decide) ?_
  refine m3_newI hB (N := 20) (c1 := 33) (by decide +kernel) (by decide) dX8_init_7 ?_
  refine m3_putF hB (c0 := 32) (vs := [(1, 0), (1, 0), (1, 0), (1, 0), (1, 0)]) dX8_init_9 fl_X8_9 (fun _ _ _ h => by cases h; rfl) (fun _ => ⟨rfl, rfl⟩) (by decide +kernel) (by decide +kernel) (by decide +kernel) ?_
  refine m3_aload_n hB dX8_init_12 rfl ?_
  refine m3_bipush hB dX8_init_13 (v := 12) (by decide) ?_
  refine m3_newI hB (N := 12) (c1 := 34) (by decide +kernel) (by decide) dX8_init_15 ?_
  refine m3_putF hB (c0 := 32) (vs := [(1, 0), (35, 0), (1, 0), (1, 0), (1, 0)]) dX8_init_17 fl_X8_15 (fun _ _ _ h => by cases h; rfl) (fun _ => ⟨rfl, rfl⟩) (by decide +kernel) (by decide +kernel) (by decide +kernel) ?_
  refine m3_aload_n hB dX8_init_20 rfl ?_
  refine m3_bipush hB dX8_init_21 (v := 12) (by decide) ?_
  refine m3_newI hB (N := 12) (c1 := 35) (by decide +kernel) (by decide) dX8_init_23 ?_
  refine m3_putF hB (c0 := 32) (vs := [(1, 0), (35, 0), (36, 0), (1, 0), (1, 0)]) dX8_init_25 fl_X8_18 (fun _ _ _ h => by cases h; rfl) (fun _ => ⟨rfl, rfl⟩) (by decide +kernel) (by decide +kernel) (by decide +kernel) ?_
  refine m3_aload_n hB dX8_init_28 rfl ?_
  refine m3_bipush hB dX8_init_29 (v := 12) (by decide) ?_
  refine m3_newI hB (N := 12) (c1 := 36) (by decide +kernel) (by decide) dX8_init_31 ?_
  refine m3_putF hB (c0 := 32) (vs := [(1, 0), (35, 0), (36, 0), (37, 0), (1, 0)]) dX8_init_33 fl_X8_21 (fun _ _ _ h => by cases h; rfl) (fun _ => ⟨rfl, rfl⟩) (by decide +kernel) (by decide +kernel) (by decide +kernel) ?_
  refine m3_aload_n hB dX8_init_36 rfl ?_
  refine m3_aload_n hB dX8_init_37 rfl ?_
  refine m3_putF hB (c0 := 32) (vs := [(1, 0), (35, 0), (36, 0), (37, 0), (38, 0)]) dX8_init_38 fl_X8_24 (fun _ _ _ h => by cases h; rfl) (fun _ => ⟨rfl, rfl⟩) (by decide +kernel) (by decide +kernel) (by decide +kernel) ?_
  refine m3_to (μ' := wB_X8) (by decide +kernel) ?_
  exact m3_vret h dX8_init_41
def wA_X1 : List m3C := [(0, 11, [(3, 0), (0, 0), (4, 0), (0, 0), (5, 0), (6, 0), (7, 0), (0, 0), (8, 0), (9, 0), (10, 0), (17, 0), (26, 0), (27, 0), (34, 0), (1, 0), (1, 0), (1, 0), (1, 0), (1, 0)]),
  (2, 80, []),
  (4, 16, []),
  (3, 20, []),
  (3, 20, []),
  (3, 20, []),
  (4, 61, []),
  (6, 4, [(1, 0), (1, 0), (1, 0), (1, 0)]),
  (0, 0, [(11, 0), (12, 0), (13, 0), (14, 0), (15, 0), (16, 0), (0, 0), (0, 0)]),
  (3, 20, []),
  (3, 20, []),
  (5, 20, []),
  (3, 20, []),
  (3, 20, []),
  (3, 20, []),
  (0, 6, [(18, 0), (19, 0), (20, 0), (21, 0), (22, 0), (23, 0), (24, 0), (25, 0), (0, 0)]),
  (3, 8, []),
  (3, 8, []),
  (5, 8, []),
  (3, 8, []),
  (3, 8, []),
  (5, 8, []),
  (5, 8, []),
  (5, 8, []),
  (0, 2, [(3, 0), (10, 0), (17, 0), (0, 0), (0, 0), (0, 0), (0, 0), (0, 0)]),
  (0, 7, [(3, 0), (28, 0), (0, 0), (0, 0), (29, 0), (0, 0), (30, 0), (0, 0), (31, 0), (0, 0), (0, 0), (0, 0), (0, 0), (32, 0), (33, 0)]),
  (3, 40, []),
  (3, 40, []),
  (3, 40, []),
  (5, 5, []),
  (3, 40, []),
  (3, 6, []),
  (0, 8, [(10, 0), (35, 0), (36, 0), (37, 0), (38, 0)]),
  (3, 20, []),
  (3, 12, []),
  (3, 12, []),
  (3, 12, []),
  (0, 1, [(1, 0), (1, 0), (1, 0), (1, 0), (1, 0), (1, 0), (0, 0), (0, 0), (1, 0), (1, 0), (0, 0)])]
def wB_X1 : List m3C := [(0, 11, [(3, 0), (0, 0), (4, 0), (0, 0), (5, 0), (6, 0), (7, 0), (0, 0), (8, 0), (9, 0), (10, 0), (17, 0), (26, 0), (27, 0), (34, 0), (1, 0), (1, 0), (1, 0), (1, 0), (1, 0)]),
  (2, 80, []),
  (4, 16, []),
  (3, 20, []),
  (3, 20, []),
  (3, 20, []),
  (4, 61, []),
  (6, 4, [(1, 0), (1, 0), (1, 0), (1, 0)]),
  (0, 0, [(11, 0), (12, 0), (13, 0), (14, 0), (15, 0), (16, 0), (0, 0), (0, 0)]),
  (3, 20, []),
  (3, 20, []),
  (5, 20, []),
  (3, 20, []),
  (3, 20, []),
  (3, 20, []),
  (0, 6, [(18, 0), (19, 0), (20, 0), (21, 0), (22, 0), (23, 0), (24, 0), (25, 0), (0, 0)]),
  (3, 8, []),
  (3, 8, []),
  (5, 8, []),
  (3, 8, []),
  (3, 8, []),
  (5, 8, []),
  (5, 8, []),
  (5, 8, []),
  (0, 2, [(3, 0), (10, 0), (17, 0), (0, 0), (0, 0), (0, 0), (0, 0), (0, 0)]),
  (0, 7, [(3, 0), (28, 0), (0, 0), (0, 0), (29, 0), (0, 0), (30, 0), (0, 0), (31, 0), (0, 0), (0, 0), (0, 0), (0, 0), (32, 0), (33, 0)]),
  (3, 40, []),
  (3, 40, []),
  (3, 40, []),
  (5, 5, []),
  (3, 40, []),
  (3, 6, []),
  (0, 8, [(10, 0), (35, 0), (36, 0), (37, 0), (38, 0)]),
  (3, 20, []),
  (3, 12, []),
  (3, 12, []),
  (3, 12, []),
  (0, 1, [(40, 0), (41, 0), (42, 0), (43, 0), (44, 0), (45, 0), (0, 0), (0, 0), (46, 0), (47, 0), (0, 0)]),
  (3, 21, []),
  (3, 21, []),
  (5, 21, []),
  (3, 21, []),
  (3, 21, []),
  (3, 20, []),
  (3, 12, []),
  (3, 12, [])]
theorem dX1_init_0 : decode cX1_init 0 = .ok (.aload_n 0, 1) := by decide +kernel
theorem dX1_init_1 : decode cX1_init 1 = .ok (.invokespecial 3, 3) := by decide +kernel
theorem dX1_init_4 : decode cX1_init 4 = .ok (.aload_n 0, 1) := by decide +kernel
theorem dX1_init_5 : decode cX1_init 5 = .ok (.bipush 21, 2) := by decide +kernel
theorem dX1_init_7 : decode cX1_init 7 = .ok (.newarray .int, 2) := by decide +kernel
theorem dX1_init_9 : decode cX1_init 9 = .ok (.putfield 9, 3) := by decide +kernel
theorem dX1_init_12 : decode cX1_init 12 = .ok (.aload_n 0, 1) := by decide +kernel
theorem dX1_init_13 : decode cX1_init 13 = .ok (.bipush 21, 2) := by decide +kernel
theorem dX1_init_15 : decode cX1_init 15 = .ok (.newarray .int, 2) := by decide +kernel
theorem dX1_init_17 : decode cX1_init 17 = .ok (.putfield 15, 3) := by decide +kernel
theorem dX1_init_20 : decode cX1_init 20 = .ok (.aload_n 0, 1) := by decide +kernel
theorem dX1_init_21 : decode cX1_init 21 = .ok (.bipush 21, 2) := by decide +kernel
theorem dX1_init_23 : decode cX1_init 23 = .ok (.newarray .boolean, 2) := by decide +kernel
theorem dX1_init_25 : decode cX1_init 25 = .ok (.putfield 18, 3) := by decide +kernel
theorem dX1_init_28 : decode cX1_init 28 = .ok (.aload_n 0, 1) := by decide +kernel
theorem dX1_init_29 : decode cX1_init 29 = .ok (.bipush 21, 2) := by decide +kernel
theorem dX1_init_31 : decode cX1_init 31 = .ok (.newarray .int, 2) := by decide +kernel
theorem dX1_init_33 : decode cX1_init 33 = .ok (.putfield 22, 3) := by decide +kernel
theorem dX1_init_36 : decode cX1_init 36 = .ok (.aload_n 0, 1) := by decide +kernel
theorem dX1_init_37 : decode cX1_init 37 = .ok (.bipush 21, 2) := by decide +kernel
theorem dX1_init_39 : decode cX1_init 39 = .ok (.newarray .int, 2) := by decide +kernel
theorem dX1_init_41 : decode cX1_init 41 = .ok (.putfield 25, 3) := by decide +kernel
theorem dX1_init_44 : decode cX1_init 44 = .ok (.aload_n 0, 1) := by decide +kernel
theorem dX1_init_45 : decode cX1_init 45 = .ok (.bipush 20, 2) := by decide +kernel
theorem dX1_init_47 : decode cX1_init 47 = .ok (.newarray .int, 2) := by decide +kernel
theorem dX1_init_49 : decode cX1_init 49 = .ok (.putfield 28, 3) := by decide +kernel
theorem dX1_init_52 : decode cX1_init 52 = .ok (.aload_n 0, 1) := by decide +kernel
theorem dX1_init_53 : decode cX1_init 53 = .ok (.bipush 12, 2) := by decide +kernel
theorem dX1_init_55 : decode cX1_init 55 = .ok (.newarray .int, 2) := by decide +kernel
theorem dX1_init_57 : decode cX1_init 57 = .ok (.putfield 31, 3) := by decide +kernel
theorem dX1_init_60 : decode cX1_init 60 = .ok (.aload_n 0, 1) := by decide +kernel
theorem dX1_init_61 : decode cX1_init 61 = .ok (.bipush 12, 2) := by decide +kernel
theorem dX1_init_63 : decode cX1_init 63 = .ok (.newarray .int, 2) := by decide +kernel
theorem dX1_init_65 : decode cX1_init 65 = .ok (.putfield 34, 3) := by decide +kernel
theorem dX1_init_68 : decode cX1_init 68 = .ok (.return_, 1) := by decide +kernel
set_option maxRecDepth 100000 in
set_option maxHeartbeats 4000000 in
theorem K_X1 {d : Nat} : m3_MT (d + 1) yX1_init cX1_init 1 [.ref 37] wA_X1 wB_X1 := by
  refine m3_MT.intro (ls := [.ref 37]) (by decide) rfl rfl (by decide) (fun κ h => ?_)
  have hB := h.b
  refine m3_aload_n hB dX1_init_0 rfl ?_
  refine m3_objInit hB ol_X1_3 oi_obj oc_obj (by decide) dX1_init_1 ?_
  refine m3_aload_n hB dX1_init_4 rfl ?_
  refine m3_bipush hB dX1_init_5 (v := 21) (by decide) ?_
  refine m3_newI hB (N := 21) (c1 := 38) (by decide +kernel) (by decide) dX1_init_7 ?_
  refine m3_putF hB (c0 := 37) (vs := [(1, 0), (1, 0), (1, 0), (1, 0), (1, 0), (1, 0), (0, 0), (0, 0), (1, 0), (1, 0), (0, 0)]) dX1_init_9 fl_X1_9 (fun _ _ _ h => by cases h; rfl) (fun _ => ⟨rfl, rfl⟩) (by decide +kernel) (by decide +kernel) (by decide +kernel) ?_
  refine m3_aload_n hB dX1_init_12 rfl ?_
  refine m3_bipush hB dX1_init_13 (v := 21) (by decide) ?_
  refine m3_newI hB (N := 21) (c1 := 39) (by decide +kernel) (by decide) dX1_init_15 ?_
  refine m3_putF hB (c0 := 37) (vs := [(40, 0), (1, 0), (1, 0), (1, 0), (1, 0), (1, 0), (0, 0), (0, 0), (1, 0), (1, 0), (0, 0)]) dX1_init_17 fl_X1_15 (fun _ _ _ h => by cases h; rfl) (fun _ => ⟨rfl, rfl⟩) (by decide +kernel) (by decide +kernel) (by decide +kernel) ?_
  refine m3_aload_n hB dX1_init_20 rfl ?_
  refine m3_bipush hB dX1_init_21 (v := 21) (by decide) ?_
  refine m3_newZ hB (N := 21) (c1 := 40) (by decide +kernel) (by decide) dX1_init_23 ?_
  refine m3_putF hB (c0 := 37) (vs := [(40, 0), (41, 0), (1, 0), (1, 0), (1, 0), (1, 0), (0, 0), (0, 0), (1, 0), (1, 0), (0, 0)]) dX1_init_25 fl_X1_18 (fun _ _ _ h => by cases h; rfl) (fun _ => ⟨rfl, rfl⟩) (by decide +kernel) (by decide +kernel) (by decide +kernel) ?_
  refine m3_aload_n hB dX1_init_28 rfl ?_
  refine m3_bipush hB dX1_init_29 (v := 21) (by decide) ?_
  refine m3_newI hB (N := 21) (c1 := 41) (by decide +kernel) (by decide) dX1_init_31 ?_
  refine m3_putF hB (c0 := 37) (vs := [(40, 0), (41, 0), (42, 0), (1, 0), (1, 0), (1, 0), (0, 0), (0, 0), (1, 0), (1, 0), (0, 0)]) dX1_init_33 fl_X1_22 (fun _ _ _ h => by cases h; rfl) (fun _ => ⟨rfl, rfl⟩) (by decide +kernel) (by decide +kernel) (by decide +kernel) ?_
  refine m3_aload_n hB dX1_init_36 rfl ?_
  refine m3_bipush hB dX1_init_37 (v := 21) (by decide) ?_
  refine m3_newI hB (N := 21) (c1 := 42) (by decide +kernel) (by decide) dX1_init_39 ?_
  refine m3_putF hB (c0 := 37) (vs := [(40, 0), (41, 0), (42, 0), (43, 0), (1, 0), (1, 0), (0, 0), (0, 0), (1, 0), (1, 0), (0, 0)]) dX1_init_41 fl_X1_25 (fun _ _ _ h => by cases h; rfl) (fun _ => ⟨rfl, rfl⟩) (by decide +kernel) (by decide +kernel) (by decide +kernel) ?_
  refine m3_aload_n hB dX1_init_44 rfl ?_
  refine m3_bipush hB dX1_init_45 (v := 20) (by decide) ?_
  refine m3_newI hB (N := 20) (c1 := 43) (by decide +kernel) (by decide) dX1_init_47 ?_
  refine m3_putF hB (c0 := 37) (vs := [(40, 0), (41, 0), (42, 0), (43, 0), (44, 0), (1, 0), (0, 0), (0, 0), (1, 0), (1, 0), (0, 0)]) dX1_init_49 fl_X1_28 (fun _ _ _ h => by cases h; rfl) (fun _ => ⟨rfl, rfl⟩) (by decide +kernel) (by decide +kernel) (by decide +kernel) ?_
  refine m3_aload_n hB dX1_init_52 rfl ?_
  refine m3_bipush hB dX1_init_53 (v := 12) (by decide) ?_
  refine m3_newI hB (N := 12) (c1 := 44) (by decide +kernel) (by decide) dX1_init_55 ?_
  refine m3_putF hB (c0 := 37) (vs := [(40, 0), (41, 0), (42, 0), (43, 0), (44, 0), (45, 0), (0, 0), (0, 0), (1, 0), (1, 0), (0, 0)]) dX1_init_57 fl_X1_31 (fun _ _ _ h => by cases h; rfl) (fun _ => ⟨rfl, rfl⟩) (by decide +kernel) (by decide +kernel) (by decide +kernel) ?_
  refine m3_aload_n hB dX1_init_60 rfl ?_
  refine m3_bipush hB dX1_init_61 (v := 12) (by decide) ?_
  refine m3_newI hB (N := 12) (c1 := 45) (by decide +kernel) (by decide) dX1_init_63 ?_
  refine m3_putF hB (c0 := 37) (vs := [(40, 0), (41, 0), (42, 0), (43, 0), (44, 0), (45, 0), (0, 0), (0, 0), (46, 0), (1, 0), (0, 0)]) dX1_init_65 fl_X1_34 (fun _ _ _ h => by cases h; rfl) (fun _ => ⟨rfl, rfl⟩) (by decide +kernel) (by decide +kernel) (by decide +kernel) ?_
  refine m3_to (μ' := wB_X1) (by decide +kernel) ?_
  exact m3_vret h dX1_init_68
def wA_X10 : List m3C := [(0, 11, [(3, 0), (0, 0), (4, 0), (0, 0), (5, 0), (6, 0), (7, 0), (0, 0), (8, 0), (9, 0), (10, 0), (17, 0), (26, 0), (27, 0), (34, 0), (39, 0), (1, 0), (1, 0), (1, 0), (1, 0)]),
  (2, 80, []),
  (4, 16, []),
  (3, 20, []),
  (3, 20, []),
  (3, 20, []),
  (4, 61, []),
  (6, 4, [(1, 0), (1, 0), (1, 0), (1, 0)]),
  (0, 0, [(11, 0), (12, 0), (13, 0), (14, 0), (15, 0), (16, 0), (0, 0), (0, 0)]),
  (3, 20, []),
  (3, 20, []),
  (5, 20, []),
  (3, 20, []),
  (3, 20, []),
  (3, 20, []),
  (0, 6, [(18, 0), (19, 0), (20, 0), (21, 0), (22, 0), (23, 0), (24, 0), (25, 0), (0, 0)]),
  (3, 8, []),
  (3, 8, []),
  (5, 8, []),
  (3, 8, []),
  (3, 8, []),
  (5, 8, []),
  (5, 8, []),
  (5, 8, []),
  (0, 2, [(3, 0), (10, 0), (17, 0), (0, 0), (0, 0), (0, 0), (0, 0), (0, 0)]),
  (0, 7, [(3, 0), (28, 0), (0, 0), (0, 0), (29, 0), (0, 0), (30, 0), (0, 0), (31, 0), (0, 0), (0, 0), (0, 0), (0, 0), (32, 0), (33, 0)]),
  (3, 40, []),
  (3, 40, []),
  (3, 40, []),
  (5, 5, []),
  (3, 40, []),
  (3, 6, []),
  (0, 8, [(10, 0), (35, 0), (36, 0), (37, 0), (38, 0)]),
  (3, 20, []),
  (3, 12, []),
  (3, 12, []),
  (3, 12, []),
  (0, 1, [(40, 0), (41, 0), (42, 0), (43, 0), (44, 0), (45, 0), (0, 0), (0, 0), (46, 0), (47, 0), (0, 0)]),
  (3, 21, []),
  (3, 21, []),
  (5, 21, []),
  (3, 21, []),
  (3, 21, []),
  (3, 20, []),
  (3, 12, []),
  (3, 12, []),
  (0, 10, [(1, 0), (1, 0), (1, 0), (1, 0), (1, 0), (1, 0), (0, 0), (0, 0), (0, 0)])]
def wB_X10 : List m3C := [(0, 11, [(3, 0), (0, 0), (4, 0), (0, 0), (5, 0), (6, 0), (7, 0), (0, 0), (8, 0), (9, 0), (10, 0), (17, 0), (26, 0), (27, 0), (34, 0), (39, 0), (1, 0), (1, 0), (1, 0), (1, 0)]),
  (2, 80, []),
  (4, 16, []),
  (3, 20, []),
  (3, 20, []),
  (3, 20, []),
  (4, 61, []),
  (6, 4, [(1, 0), (1, 0), (1, 0), (1, 0)]),
  (0, 0, [(11, 0), (12, 0), (13, 0), (14, 0), (15, 0), (16, 0), (0, 0), (0, 0)]),
  (3, 20, []),
  (3, 20, []),
  (5, 20, []),
  (3, 20, []),
  (3, 20, []),
  (3, 20, []),
  (0, 6, [(18, 0), (19, 0), (20, 0), (21, 0), (22, 0), (23, 0), (24, 0), (25, 0), (0, 0)]),
  (3, 8, []),
  (3, 8, []),
  (5, 8, []),
  (3, 8, []),
  (3, 8, []),
  (5, 8, []),
  (5, 8, []),
  (5, 8, []),
  (0, 2, [(3, 0), (10, 0), (17, 0), (0, 0), (0, 0), (0, 0), (0, 0), (0, 0)]),
  (0, 7, [(3, 0), (28, 0), (0, 0), (0, 0), (29, 0), (0, 0), (30, 0), (0, 0), (31, 0), (0, 0), (0, 0), (0, 0), (0, 0), (32, 0), (33, 0)]),
  (3, 40, []),
  (3, 40, []),
  (3, 40, []),
  (5, 5, []),
  (3, 40, []),
  (3, 6, []),
  (0, 8, [(10, 0), (35, 0), (36, 0), (37, 0), (38, 0)]),
  (3, 20, []),
  (3, 12, []),
  (3, 12, []),
  (3, 12, []),
  (0, 1, [(40, 0), (41, 0), (42, 0), (43, 0), (44, 0), (45, 0), (0, 0), (0, 0), (46, 0), (47, 0), (0, 0)]),
  (3, 21, []),
  (3, 21, []),
  (5, 21, []),
  (3, 21, []),
  (3, 21, []),
  (3, 20, []),
  (3, 12, []),
  (3, 12, []),
  (0, 10, [(10, 0), (17, 0), (34, 0), (27, 0), (49, 0), (50, 0), (0, 1), (0, 0), (0, 0)]),
  (3, 20, []),
  (3, 20, [])]
theorem dX10_init_0 : decode cX10_init 0 = .ok (.aload_n 0, 1) := by decide +kernel
theorem dX10_init_1 : decode cX10_init 1 = .ok (.invokespecial 3, 3) := by decide +kernel
theorem dX10_init_4 : decode cX10_init 4 = .ok (.aload_n 0, 1) := by decide +kernel
theorem dX10_init_5 : decode cX10_init 5 = .ok (.bipush 20, 2) := by decide +kernel
theorem dX10_init_7 : decode cX10_init 7 = .ok (.newarray .int, 2) := by decide +kernel
theorem dX10_init_9 : decode cX10_init 9 = .ok (.putfield 9, 3) := by decide +kernel
theorem dX10_init_12 : decode cX10_init 12 = .ok (.aload_n 0, 1) := by decide +kernel
theorem dX10_init_13 : decode cX10_init 13 = .ok (.bipush 20, 2) := by decide +kernel
theorem dX10_init_15 : decode cX10_init 15 = .ok (.newarray .int, 2) := by decide +kernel
theorem dX10_init_17 : decode cX10_init 17 = .ok (.putfield 15, 3) := by decide +kernel
theorem dX10_init_20 : decode cX10_init 20 = .ok (.aload_n 0, 1) := by decide +kernel
theorem dX10_init_21 : decode cX10_init 21 = .ok (.iconst 1, 1) := by decide +kernel
theorem dX10_init_22 : decode cX10_init 22 = .ok (.putfield 18, 3) := by decide +kernel
theorem dX10_init_25 : decode cX10_init 25 = .ok (.aload_n 0, 1) := by decide +kernel
theorem dX10_init_26 : decode cX10_init 26 = .ok (.aload_n 1, 1) := by decide +kernel
theorem dX10_init_27 : decode cX10_init 27 = .ok (.putfield 22, 3) := by decide +kernel
theorem dX10_init_30 : decode cX10_init 30 = .ok (.aload_n 0, 1) := by decide +kernel
theorem dX10_init_31 : decode cX10_init 31 = .ok (.aload_n 2, 1) := by decide +kernel
theorem dX10_init_32 : decode cX10_init 32 = .ok (.putfield 26, 3) := by decide +kernel
theorem dX10_init_35 : decode cX10_init 35 = .ok (.aload_n 0, 1) := by decide +kernel
theorem dX10_init_36 : decode cX10_init 36 = .ok (.aload_n 3, 1) := by decide +kernel
theorem dX10_init_37 : decode cX10_init 37 = .ok (.putfield 30, 3) := by decide +kernel
theorem dX10_init_40 : decode cX10_init 40 = .ok (.aload_n 0, 1) := by decide +kernel
theorem dX10_init_41 : decode cX10_init 41 = .ok (.aload 4, 2) := by decide +kernel
theorem dX10_init_43 : decode cX10_init 43 = .ok (.putfield 34, 3) := by decide +kernel
theorem dX10_init_46 : decode cX10_init 46 = .ok (.return_, 1) := by decide +kernel
set_option maxRecDepth 100000 in
set_option maxHeartbeats 4000000 in
theorem K_X10 {d : Nat} : m3_MT (d + 1) yX10_init cX10_init 5 [.ref 46, .ref 8, .ref 15, .ref 32, .ref 25] wA_X10 wB_X10 := by
  refine m3_MT.intro (ls := [.ref 46, .ref 8, .ref 15, .ref 32, .ref 25]) (by decide) rfl rfl (by decide) (fun κ h => ?_)
  have hB := h.b
  refine m3_aload_n hB dX10_init_0 rfl ?_
  refine m3_objInit hB ol_X10_3 oi_obj oc_obj (by decide) dX10_init_1 ?_
  refine m3_aload_n hB dX10_init_4 rfl ?_
  refine m3_bipush hB dX10_init_5 (v := 20) (by decide) ?_
  refine m3_newI hB (N := 20) (c1 := 47) (by decide +kernel) (by decide) dX10_init_7 ?_
  refine m3_putF hB (c0 := 46) (vs := [(1, 0), (1, 0), (1, 0), (1, 0), (1, 0), (1, 0), (0, 0), (0, 0), (0, 0)]) dX10_init_9 fl_X10_9 (fun _ _ _ h => by cases h; rfl) (fun _ => ⟨rfl, rfl⟩) (by decide +kernel) (by decide +kernel) (by decide +kernel) ?_
  refine m3_aload_n hB dX10_init_12 rfl ?_
  refine m3_bipush hB dX10_init_13 (v := 20) (by decide) ?_
  refine m3_newI hB (N := 20) (c1 := 48) (by decide +kernel) (by decide) dX10_init_15 ?_
  refine m3_putF hB (c0 := 46) (vs := [(1, 0), (1, 0), (1, 0), (1, 0), (49, 0), (1, 0), (0, 0), (0, 0), (0, 0)]) dX10_init_17 fl_X10_15 (fun _ _ _ h => by cases h; rfl) (fun _ => ⟨rfl, rfl⟩) (by decide +kernel) (by decide +kernel) (by decide +kernel) ?_
  refine m3_aload_n hB dX10_init_20 rfl ?_
  refine m3_iconst hB dX10_init_21 (v := 1) (by decide) ?_
  refine m3_putI hB (c0 := 46) (vs := [(1, 0), (1, 0), (1, 0), (1, 0), (49, 0), (50, 0), (0, 0), (0, 0), (0, 0)]) dX10_init_22 fl_X10_18 (by decide +kernel) (by decide +kernel) (by decide +kernel) ?_
  refine m3_aload_n hB dX10_init_25 rfl ?_
  refine m3_aload_n hB dX10_init_26 rfl ?_
  refine m3_putF hB (c0 := 46) (vs := [(1, 0), (1, 0), (1, 0), (1, 0), (49, 0), (50, 0), (0, 1), (0, 0), (0, 0)]) dX10_init_27 fl_X10_22 (fun _ _ _ h => by cases h; rfl) (fun _ => ⟨rfl, rfl⟩) (by decide +kernel) (by decide +kernel) (by decide +kernel) ?_
  refine m3_aload_n hB dX10_init_30 rfl ?_
  refine m3_aload_n hB dX10_init_31 rfl ?_
  refine m3_putF hB (c0 := 46) (vs := [(10, 0), (1, 0), (1, 0), (1, 0), (49, 0), (50, 0), (0, 1), (0, 0), (0, 0)]) dX10_init_32 fl_X10_26 (fun _ _ _ h => by cases h; rfl) (fun _ => ⟨rfl, rfl⟩) (by decide +kernel) (by decide +kernel) (by decide +kernel) ?_
  refine m3_aload_n hB dX10_init_35 rfl ?_
  refine m3_aload_n hB dX10_init_36 rfl ?_
  refine m3_putF hB (c0 := 46) (vs := [(10, 0), (17, 0), (1, 0), (1, 0), (49, 0), (50, 0), (0, 1), (0, 0), (0, 0)]) dX10_init_37 fl_X10_30 (fun _ _ _ h => by cases h; rfl) (fun _ => ⟨rfl, rfl⟩) (by decide +kernel) (by decide +kernel) (by decide +kernel) ?_
  refine m3_aload_n hB dX10_init_40 rfl ?_
  refine m3_aload hB dX10_init_41 rfl ?_
  refine m3_putF hB (c0 := 46) (vs := [(10, 0), (17, 0), (34, 0), (1, 0), (49, 0), (50, 0), (0, 1), (0, 0), (0, 0)]) dX10_init_43 fl_X10_34 (fun _ _ _ h => by cases h; rfl) (fun _ => ⟨rfl, rfl⟩) (by decide +kernel) (by decide +kernel) (by decide +kernel) ?_
  refine m3_to (μ' := wB_X10) (by decide +kernel) ?_
  exact m3_vret h dX10_init_46
