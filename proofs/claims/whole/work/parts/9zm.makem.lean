def wA_X4 : List m3C := [(0, 11, [(3, 0), (0, 0), (4, 0), (0, 0), (5, 0), (6, 0), (7, 0), (0, 0), (8, 0), (9, 0), (10, 0), (17, 0), (26, 0), (27, 0), (34, 0), (39, 0), (48, 0), (1, 0), (1, 0), (1, 0)]),
  (2, 80, []),
  (4, 16, []),
  (3, 20, []),
  (3, 20, []),
  (3, 20, []),
  (4, 61, []),
  (6, 4, [(1, 0), (1, 0), (1, 0), (1, 0)]),
  (0, 0, [(11, 0), (12, 0), (13, 0), (14, 0), (15, 0), (16, 0), (0, 0), (0, 0)]),
  (3, 20, []),
  (3, 20, []),
  (5, 20, []),
  (3, 20, []),
  (3, 20, []),
  (3, 20, []),
  (0, 6, [(18, 0), (19, 0), (20, 0), (21, 0), (22, 0), (23, 0), (24, 0), (25, 0), (0, 0)]),
  (3, 8, []),
  (3, 8, []),
  (5, 8, []),
  (3, 8, []),
  (3, 8, []),
  (5, 8, []),
  (5, 8, []),
  (5, 8, []),
  (0, 2, [(3, 0), (10, 0), (17, 0), (0, 0), (0, 0), (0, 0), (0, 0), (0, 0)]),
  (0, 7, [(3, 0), (28, 0), (0, 0), (0, 0), (29, 0), (0, 0), (30, 0), (0, 0), (31, 0), (0, 0), (0, 0), (0, 0), (0, 0), (32, 0), (33, 0)]),
  (3, 40, []),
  (3, 40, []),
  (3, 40, []),
  (5, 5, []),
  (3, 40, []),
  (3, 6, []),
  (0, 8, [(10, 0), (35, 0), (36, 0), (37, 0), (38, 0)]),
  (3, 20, []),
  (3, 12, []),
  (3, 12, []),
  (3, 12, []),
  (0, 1, [(40, 0), (41, 0), (42, 0), (43, 0), (44, 0), (45, 0), (0, 0), (0, 0), (46, 0), (47, 0), (0, 0)]),
  (3, 21, []),
  (3, 21, []),
  (5, 21, []),
  (3, 21, []),
  (3, 21, []),
  (3, 20, []),
  (3, 12, []),
  (3, 12, []),
  (0, 10, [(10, 0), (17, 0), (34, 0), (27, 0), (49, 0), (50, 0), (0, 1), (0, 0), (0, 0)]),
  (3, 20, []),
  (3, 20, []),
  (0, 4, [(1, 0), (1, 0), (1, 0), (1, 0), (1, 0), (1, 0), (1, 0), (0, 0), (0, 0), (0, 0), (0, 0), (0, 0), (0, 0), (1, 0), (0, 0)])]
def wB_X4 : List m3C := [(0, 11, [(3, 0), (0, 0), (4, 0), (0, 0), (5, 0), (6, 0), (7, 0), (0, 0), (8, 0), (9, 0), (10, 0), (17, 0), (26, 0), (27, 0), (34, 0), (39, 0), (48, 0), (1, 0), (1, 0), (1, 0)]),
  (2, 80, []),
  (4, 16, []),
  (3, 20, []),
  (3, 20, []),
  (3, 20, []),
  (4, 61, []),
  (6, 4, [(1, 0), (1, 0), (1, 0), (1, 0)]),
  (0, 0, [(11, 0), (12, 0), (13, 0), (14, 0), (15, 0), (16, 0), (0, 0), (0, 0)]),
  (3, 20, []),
  (3, 20, []),
  (5, 20, []),
  (3, 20, []),
  (3, 20, []),
  (3, 20, []),
  (0, 6, [(18, 0), (19, 0), (20, 0), (21, 0), (22, 0), (23, 0), (24, 0), (25, 0), (0, 0)]),
  (3, 8, []),
  (3, 8, []),
  (5, 8, []),
  (3, 8, []),
  (3, 8, []),
  (5, 8, []),
  (5, 8, []),
  (5, 8, []),
  (0, 2, [(3, 0), (10, 0), (17, 0), (0, 0), (0, 0), (0, 0), (0, 0), (0, 0)]),
  (0, 7, [(3, 0), (28, 0), (0, 0), (0, 0), (29, 0), (0, 0), (30, 0), (0, 0), (31, 0), (0, 0), (0, 0), (0, 0), (0, 0), (32, 0), (33, 0)]),
  (3, 40, []),
  (3, 40, []),
  (3, 40, []),
  (5, 5, []),
  (3, 40, []),
  (3, 6, []),
  (0, 8, [(10, 0), (35, 0), (36, 0), (37, 0), (38, 0)]),
  (3, 20, []),
  (3, 12, []),
  (3, 12, []),
  (3, 12, []),
  (0, 1, [(40, 0), (41, 0), (42, 0), (43, 0), (44, 0), (45, 0), (0, 0), (0, 0), (46, 0), (47, 0), (0, 0)]),
  (3, 21, []),
  (3, 21, []),
  (5, 21, []),
  (3, 21, []),
  (3, 21, []),
  (3, 20, []),
  (3, 12, []),
  (3, 12, []),
  (0, 10, [(10, 0), (17, 0), (34, 0), (27, 0), (49, 0), (50, 0), (0, 1), (0, 0), (0, 0)]),
  (3, 20, []),
  (3, 20, []),
  (0, 4, [(10, 0), (17, 0), (48, 0), (52, 0), (53, 0), (54, 0), (55, 0), (0, 0), (0, 0), (0, 0), (0, 0), (0, 0), (0, 0), (56, 0), (0, 0)]),
  (6, 6, [(57, 0), (62, 0), (67, 0), (72, 0), (77, 0), (82, 0)]),
  (3, 6, []),
  (3, 6, []),
  (3, 6, []),
  (3, 6, []),
  (0, 3, [(58, 0), (59, 0), (60, 0), (61, 0), (0, 0), (0, 0), (0, 0), (0, 0)]),
  (3, 20, []),
  (3, 8, []),
  (5, 8, []),
  (5, 8, []),
  (0, 3, [(63, 0), (64, 0), (65, 0), (66, 0), (0, 0), (0, 0), (0, 0), (0, 0)]),
  (3, 20, []),
  (3, 8, []),
  (5, 8, []),
  (5, 8, []),
  (0, 3, [(68, 0), (69, 0), (70, 0), (71, 0), (0, 0), (0, 0), (0, 0), (0, 0)]),
  (3, 20, []),
  (3, 8, []),
  (5, 8, []),
  (5, 8, []),
  (0, 3, [(73, 0), (74, 0), (75, 0), (76, 0), (0, 0), (0, 0), (0, 0), (0, 0)]),
  (3, 20, []),
  (3, 8, []),
  (5, 8, []),
  (5, 8, []),
  (0, 3, [(78, 0), (79, 0), (80, 0), (81, 0), (0, 0), (0, 0), (0, 0), (0, 0)]),
  (3, 20, []),
  (3, 8, []),
  (5, 8, []),
  (5, 8, []),
  (0, 3, [(83, 0), (84, 0), (85, 0), (86, 0), (0, 0), (0, 0), (0, 0), (0, 0)]),
  (3, 20, []),
  (3, 8, []),
  (5, 8, []),
  (5, 8, [])]
theorem dX4_init_0 : decode cX4_init 0 = .ok (.aload_n 0, 1) := by decide +kernel
theorem dX4_init_1 : decode cX4_init 1 = .ok (.invokespecial 3, 3) := by decide +kernel
theorem dX4_init_4 : decode cX4_init 4 = .ok (.aload_n 0, 1) := by decide +kernel
theorem dX4_init_5 : decode cX4_init 5 = .ok (.bipush 6, 2) := by decide +kernel
theorem dX4_init_7 : decode cX4_init 7 = .ok (.anewarray 11, 3) := by decide +kernel
theorem dX4_init_10 : decode cX4_init 10 = .ok (.putfield 13, 3) := by decide +kernel
theorem dX4_init_13 : decode cX4_init 13 = .ok (.aload_n 0, 1) := by decide +kernel
theorem dX4_init_14 : decode cX4_init 14 = .ok (.bipush 6, 2) := by decide +kernel
theorem dX4_init_16 : decode cX4_init 16 = .ok (.newarray .int, 2) := by decide +kernel
theorem dX4_init_18 : decode cX4_init 18 = .ok (.putfield 17, 3) := by decide +kernel
theorem dX4_init_21 : decode cX4_init 21 = .ok (.aload_n 0, 1) := by decide +kernel
theorem dX4_init_22 : decode cX4_init 22 = .ok (.bipush 6, 2) := by decide +kernel
theorem dX4_init_24 : decode cX4_init 24 = .ok (.newarray .int, 2) := by decide +kernel
theorem dX4_init_26 : decode cX4_init 26 = .ok (.putfield 21, 3) := by decide +kernel
theorem dX4_init_29 : decode cX4_init 29 = .ok (.aload_n 0, 1) := by decide +kernel
theorem dX4_init_30 : decode cX4_init 30 = .ok (.bipush 6, 2) := by decide +kernel
theorem dX4_init_32 : decode cX4_init 32 = .ok (.newarray .int, 2) := by decide +kernel
theorem dX4_init_34 : decode cX4_init 34 = .ok (.putfield 24, 3) := by decide +kernel
theorem dX4_init_37 : decode cX4_init 37 = .ok (.aload_n 0, 1) := by decide +kernel
theorem dX4_init_38 : decode cX4_init 38 = .ok (.bipush 6, 2) := by decide +kernel
theorem dX4_init_40 : decode cX4_init 40 = .ok (.newarray .int, 2) := by decide +kernel
theorem dX4_init_42 : decode cX4_init 42 = .ok (.putfield 27, 3) := by decide +kernel
theorem dX4_init_45 : decode cX4_init 45 = .ok (.aload_n 0, 1) := by decide +kernel
theorem dX4_init_46 : decode cX4_init 46 = .ok (.aload_n 1, 1) := by decide +kernel
theorem dX4_init_47 : decode cX4_init 47 = .ok (.putfield 30, 3) := by decide +kernel
theorem dX4_init_50 : decode cX4_init 50 = .ok (.aload_n 0, 1) := by decide +kernel
theorem dX4_init_51 : decode cX4_init 51 = .ok (.aload_n 2, 1) := by decide +kernel
theorem dX4_init_52 : decode cX4_init 52 = .ok (.putfield 34, 3) := by decide +kernel
theorem dX4_init_55 : decode cX4_init 55 = .ok (.aload_n 0, 1) := by decide +kernel
theorem dX4_init_56 : decode cX4_init 56 = .ok (.aload_n 3, 1) := by decide +kernel
theorem dX4_init_57 : decode cX4_init 57 = .ok (.putfield 38, 3) := by decide +kernel
theorem dX4_init_60 : decode cX4_init 60 = .ok (.iconst 0, 1) := by decide +kernel
theorem dX4_init_61 : decode cX4_init 61 = .ok (.istore 4, 2) := by decide +kernel
theorem dX4_init_63 : decode cX4_init 63 = .ok (.iload 4, 2) := by decide +kernel
theorem dX4_init_65 : decode cX4_init 65 = .ok (.bipush 6, 2) := by decide +kernel
theorem dX4_init_67 : decode cX4_init 67 = .ok (.if_icmp .ge 23, 3) := by decide +kernel
theorem dX4_init_70 : decode cX4_init 70 = .ok (.aload_n 0, 1) := by decide +kernel
theorem dX4_init_71 : decode cX4_init 71 = .ok (.getfield 13, 3) := by decide +kernel
theorem dX4_init_74 : decode cX4_init 74 = .ok (.iload 4, 2) := by decide +kernel
theorem dX4_init_76 : decode cX4_init 76 = .ok (.new 11, 3) := by decide +kernel
theorem dX4_init_79 : decode cX4_init 79 = .ok (.dup, 1) := by decide +kernel
theorem dX4_init_80 : decode cX4_init 80 = .ok (.invokespecial 42, 3) := by decide +kernel
theorem dX4_init_83 : decode cX4_init 83 = .ok (.aastore, 1) := by decide +kernel
theorem dX4_init_84 : decode cX4_init 84 = .ok (.iinc 4 1, 3) := by decide +kernel
theorem dX4_init_87 : decode cX4_init 87 = .ok (.goto (-24), 3) := by decide +kernel
theorem dX4_init_90 : decode cX4_init 90 = .ok (.return_, 1) := by decide +kernel
set_option maxRecDepth 100000 in
set_option maxHeartbeats 4000000 in
theorem K_X4 {d : Nat} : m3_MT (d + 2) yX4_init cX4_init 5 [.ref 49, .ref 8, .ref 15, .ref 46] wA_X4 wB_X4 := by
  refine m3_MT.intro (ls := [.ref 49, .ref 8, .ref 15, .ref 46, .null]) (by decide) rfl rfl (by decide) (fun κ h => ?_)
  have hB := h.b
  refine m3_aload_n hB dX4_init_0 rfl ?_
  refine m3_objInit hB ol_X4_3 oi_obj oc_obj (by decide) dX4_init_1 ?_
  refine m3_aload_n hB dX4_init_4 rfl ?_
  refine m3_bipush hB dX4_init_5 (v := 6) (by decide) ?_
  refine m3_newK hB cl_X4_11 (N := 6) (c1 := 50) (by decide +kernel) (by decide) dX4_init_7 ?_
  refine m3_putF hB (c0 := 49) (vs := [(1, 0), (1, 0), (1, 0), (1, 0), (1, 0), (1, 0), (1, 0), (0, 0), (0, 0), (0, 0), (0, 0), (0, 0), (0, 0), (1, 0), (0, 0)]) dX4_init_10 fl_X4_13 (fun _ _ _ h => by cases h; rfl) (fun _ => ⟨rfl, rfl⟩) (by decide +kernel) (by decide +kernel) (by decide +kernel) ?_
  refine m3_aload_n hB dX4_init_13 rfl ?_
  refine m3_bipush hB dX4_init_14 (v := 6) (by decide) ?_
  refine m3_newI hB (N := 6) (c1 := 51) (by decide +kernel) (by decide) dX4_init_16 ?_
  refine m3_putF hB (c0 := 49) (vs := [(1, 0), (1, 0), (1, 0), (52, 0), (1, 0), (1, 0), (1, 0), (0, 0), (0, 0), (0, 0), (0, 0), (0, 0), (0, 0), (1, 0), (0, 0)]) dX4_init_18 fl_X4_17 (fun _ _ _ h => by cases h; rfl) (fun _ => ⟨rfl, rfl⟩) (by decide +kernel) (by decide +kernel) (by decide +kernel) ?_
  refine m3_aload_n hB dX4_init_21 rfl ?_
  refine m3_bipush hB dX4_init_22 (v := 6) (by decide) ?_
  refine m3_newI hB (N := 6) (c1 := 52) (by decide +kernel) (by decide) dX4_init_24 ?_
  refine m3_putF hB (c0 := 49) (vs := [(1, 0), (1, 0), (1, 0), (52, 0), (53, 0), (1, 0), (1, 0), (0, 0), (0, 0), (0, 0), (0, 0), (0, 0), (0, 0), (1, 0), (0, 0)]) dX4_init_26 fl_X4_21 (fun _ _ _ h => by cases h; rfl) (fun _ => ⟨rfl, rfl⟩) (by decide +kernel) (by decide +kernel) (by decide +kernel) ?_
  refine m3_aload_n hB dX4_init_29 rfl ?_
  refine m3_bipush hB dX4_init_30 (v := 6) (by decide) ?_
  refine m3_newI hB (N := 6) (c1 := 53) (by decide +kernel) (by decide) dX4_init_32 ?_
  refine m3_putF hB (c0 := 49) (vs := [(1, 0), (1, 0), (1, 0), (52, 0), (53, 0), (54, 0), (1, 0), (0, 0), (0, 0), (0, 0), (0, 0), (0, 0), (0, 0), (1, 0), (0, 0)]) dX4_init_34 fl_X4_24 (fun _ _ _ h => by cases h; rfl) (fun _ => ⟨rfl, rfl⟩) (by decide +kernel) (by decide +kernel) (by decide +kernel) ?_
  refine m3_aload_n hB dX4_init_37 rfl ?_
  refine m3_bipush hB dX4_init_38 (v := 6) (by decide) ?_
  refine m3_newI hB (N := 6) (c1 := 54) (by decide +kernel) (by decide) dX4_init_40 ?_
  refine m3_putF hB (c0 := 49) (vs := [(1, 0), (1, 0), (1, 0), (52, 0), (53, 0), (54, 0), (55, 0), (0, 0), (0, 0), (0, 0), (0, 0), (0, 0), (0, 0), (1, 0), (0, 0)]) dX4_init_42 fl_X4_27 (fun _ _ _ h => by cases h; rfl) (fun _ => ⟨rfl, rfl⟩) (by decide +kernel) (by decide +kernel) (by decide +kernel) ?_
  refine m3_aload_n hB dX4_init_45 rfl ?_
  refine m3_aload_n hB dX4_init_46 rfl ?_
  refine m3_putF hB (c0 := 49) (vs := [(1, 0), (1, 0), (1, 0), (52, 0), (53, 0), (54, 0), (55, 0), (0, 0), (0, 0), (0, 0), (0, 0), (0, 0), (0, 0), (56, 0), (0, 0)]) dX4_init_47 fl_X4_30 (fun _ _ _ h => by cases h; rfl) (fun _ => ⟨rfl, rfl⟩) (by decide +kernel) (by decide +kernel) (by decide +kernel) ?_
  refine m3_aload_n hB dX4_init_50 rfl ?_
  refine m3_aload_n hB dX4_init_51 rfl ?_
  refine m3_putF hB (c0 := 49) (vs := [(10, 0), (1, 0), (1, 0), (52, 0), (53, 0), (54, 0), (55, 0), (0, 0), (0, 0), (0, 0), (0, 0), (0, 0), (0, 0), (56, 0), (0, 0)]) dX4_init_52 fl_X4_34 (fun _ _ _ h => by cases h; rfl) (fun _ => ⟨rfl, rfl⟩) (by decide +kernel) (by decide +kernel) (by decide +kernel) ?_
  refine m3_aload_n hB dX4_init_55 rfl ?_
  refine m3_aload_n hB dX4_init_56 rfl ?_
  refine m3_putF hB (c0 := 49) (vs := [(10, 0), (17, 0), (1, 0), (52, 0), (53, 0), (54, 0), (55, 0), (0, 0), (0, 0), (0, 0), (0, 0), (0, 0), (0, 0), (56, 0), (0, 0)]) dX4_init_57 fl_X4_38 (fun _ _ _ h => by cases h; rfl) (fun _ => ⟨rfl, rfl⟩) (by decide +kernel) (by decide +kernel) (by decide +kernel) ?_
  refine m3_iconst hB dX4_init_60 (v := 0) (by decide) ?_
  refine m3_istore hB dX4_init_61 (ls' := [.ref 49, .ref 8, .ref 15, .ref 46, .int 0]) (by decide) rfl ?_
  refine m3_iload hB dX4_init_63 rfl ?_
  refine m3_bipush hB dX4_init_65 (v := 6) (by decide) ?_
  refine m3_icmp_ge hB dX4_init_67 (tgt := 90) (by decide) (fun q => absurd q (by decide)) (fun _ => ?_)
  refine m3_aload_n hB dX4_init_70 rfl ?_
  refine m3_getR hB (c0 := 49) (c1 := 50) (x := 0) (vs := [(10, 0), (17, 0), (48, 0), (52, 0), (53, 0), (54, 0), (55, 0), (0, 0), (0, 0), (0, 0), (0, 0), (0, 0), (0, 0), (56, 0), (0, 0)]) dX4_init_71 fl_X4_13 (by decide +kernel) (by decide +kernel) ?_
  refine m3_iload hB dX4_init_74 rfl ?_
  refine m3_newO hB (C := RX3) (ci := 3) (N := 8) (vs := dfX3) (c1 := 55) kl_X3 cl_X4_11 (by decide +kernel) dX4_init_76 ?_
  refine m3_dup hB dX4_init_79 rfl ?_
  refine m3_invN hB (c0 := 55) (as := []) dX4_init_80 jn_X4_42 rfl (by decide) rfl (by decide +kernel) (by decide +kernel) (by decide +kernel) (by decide +kernel) (K_X3 (n := 55) (by decide +kernel) (by decide)) ?_
  refine m3_aast hB (c0 := 50) (c1 := 55) (N := 6) (j := 0) (rs := [(1, 0), (1, 0), (1, 0), (1, 0), (1, 0), (1, 0)]) (vs := [(58, 0), (59, 0), (60, 0), (61, 0), (0, 0), (0, 0), (0, 0), (0, 0)]) dX4_init_83 (by decide +kernel) (by decide +kernel) (by decide) (by unfold vp_in; decide) (by decide) (by decide +kernel) ?_
  refine m3_iinc hB (v := 1) (ls' := [.ref 49, .ref 8, .ref 15, .ref 46, .int 1]) dX4_init_84 rfl (by decide) (by decide) rfl ?_
  refine m3_goto hB dX4_init_87 (tgt := 63) (by decide) ?_
  refine m3_iload hB dX4_init_63 rfl ?_
  refine m3_bipush hB dX4_init_65 (v := 6) (by decide) ?_
  refine m3_icmp_ge hB dX4_init_67 (tgt := 90) (by decide) (fun q => absurd q (by decide)) (fun _ => ?_)
  refine m3_aload_n hB dX4_init_70 rfl ?_
  refine m3_getR hB (c0 := 49) (c1 := 50) (x := 0) (vs := [(10, 0), (17, 0), (48, 0), (52, 0), (53, 0), (54, 0), (55, 0), (0, 0), (0, 0), (0, 0), (0, 0), (0, 0), (0, 0), (56, 0), (0, 0)]) dX4_init_71 fl_X4_13 (by decide +kernel) (by decide +kernel) ?_
  refine m3_iload hB dX4_init_74 rfl ?_
  refine m3_newO hB (C := RX3) (ci := 3) (N := 8) (vs := dfX3) (c1 := 60) kl_X3 cl_X4_11 (by decide +kernel) dX4_init_76 ?_
  refine m3_dup hB dX4_init_79 rfl ?_
  refine m3_invN hB (c0 := 60) (as := []) dX4_init_80 jn_X4_42 rfl (by decide) rfl (by decide +kernel) (by decide +kernel) (by decide +kernel) (by decide +kernel) (K_X3 (n := 60) (by decide +kernel) (by decide)) ?_
  refine m3_aast hB (c0 := 50) (c1 := 60) (N := 6) (j := 1) (rs := [(57, 0), (1, 0), (1, 0), (1, 0), (1, 0), (1, 0)]) (vs := [(63, 0), (64, 0), (65, 0), (66, 0), (0, 0), (0, 0), (0, 0), (0, 0)]) dX4_init_83 (by decide +kernel) (by decide +kernel) (by decide) (by unfold vp_in; decide) (by decide) (by decide +kernel) ?_
  refine m3_iinc hB (v := 2) (ls' := [.ref 49, .ref 8, .ref 15, .ref 46, .int 2]) dX4_init_84 rfl (by decide) (by decide) rfl ?_
  refine m3_goto hB dX4_init_87 (tgt := 63) (by decide) ?_
  refine m3_iload hB dX4_init_63 rfl ?_
  refine m3_bipush hB dX4_init_65 (v := 6) (by decide) ?_
  refine m3_icmp_ge hB dX4_init_67 (tgt := 90) (by decide) (fun q => absurd q (by decide)) (fun _ => ?_)
  refine m3_aload_n hB dX4_init_70 rfl ?_
  refine m3_getR hB (c0 := 49) (c1 := 50) (x := 0) (vs := [(10, 0), (17, 0), (48, 0), (52, 0), (53, 0), (54, 0), (55, 0), (0, 0), (0, 0), (0, 0), (0, 0), (0, 0), (0, 0), (56, 0), (0, 0)]) dX4_init_71 fl_X4_13 (by decide +kernel) (by decide +kernel) ?_
  refine m3_iload hB dX4_init_74 rfl ?_
  refine m3_newO hB (C := RX3) (ci := 3) (N := 8) (vs := dfX3) (c1 := 65) kl_X3 cl_X4_11 (by decide +kernel) dX4_init_76 ?_
  refine m3_dup hB dX4_init_79 rfl ?_
  refine m3_invN hB (c0 := 65) (as := []) dX4_init_80 jn_X4_42 rfl (by decide) rfl (by decide +kernel) (by decide +kernel) (by decide +kernel) (by decide +kernel) (K_X3 (n := 65) (by decide +kernel) (by decide)) ?_
  refine m3_aast hB (c0 := 50) (c1 := 65) (N := 6) (j := 2) (rs := [(57, 0), (62, 0), (1, 0), (1, 0), (1, 0), (1, 0)]) (vs := [(68, 0), (69, 0), (70, 0), (71, 0), (0, 0), (0, 0), (0, 0), (0, 0)]) dX4_init_83 (by decide +kernel) (by decide +kernel) (by decide) (by unfold vp_in; decide) (by decide) (by decide +kernel) ?_
  refine m3_iinc hB (v := 3) (ls' := [.ref 49, .ref 8, .ref 15, .ref 46, .int 3]) dX4_init_84 rfl (by decide) (by decide) rfl ?_
  refine m3_goto hB dX4_init_87 (tgt := 63) (by decide) ?_
  refine m3_iload hB dX4_init_63 rfl ?_
  refine m3_bipush hB dX4_init_65 (v := 6) (by decide) ?_
  refine m3_icmp_ge hB dX4_init_67 (tgt := 90) (by decide) (fun q => absurd q (by decide)) (fun _ => ?_)
  refine m3_aload_n hB dX4_init_70 rfl ?_
  refine m3_getR hB (c0 := 49) (c1 := 50) (x := 0) (vs := [(10, 0), (17, 0), (48, 0), (52, 0), (53, 0), (54, 0), (55, 0), (0, 0), (0, 0), (0, 0), (0, 0), (0, 0), (0, 0), (56, 0), (0, 0)]) dX4_init_71 fl_X4_13 (by decide +kernel) (by decide +kernel) ?_
  refine m3_iload hB dX4_init_74 rfl ?_
  refine m3_newO hB (C := RX3) (ci := 3) (N := 8) (vs := dfX3) (c1 := 70) kl_X3 cl_X4_11 (by decide +kernel) dX4_init_76 ?_
  refine m3_dup hB dX4_init_79 rfl ?_
  refine m3_invN hB (c0 := 70) (as := []) dX4_init_80 jn_X4_42 rfl (by decide) rfl (by decide +kernel) (by decide +kernel) (by decide +kernel) (by decide +kernel) (K_X3 (n := 70) (by decide +kernel) (by decide)) ?_
  refine m3_aast hB (c0 := 50) (c1 := 70) (N := 6) (j := 3) (rs := [(57, 0), (62, 0), (67, 0), (1, 0), (1, 0), (1, 0)]) (vs := [(73, 0), (74, 0), (75, 0), (76, 0), (0, 0), (0, 0), (0, 0), (0, 0)]) dX4_init_83 (by decide +kernel) (by decide +kernel) (by decide) (by unfold vp_in; decide) (by decide) (by decide +kernel) ?_
  refine m3_iinc hB (v := 4) (ls' := [.ref 49, .ref 8, .ref 15, .ref 46, .int 4]) dX4_init_84 rfl (by decide) (by decide) rfl ?_
  refine m3_goto hB dX4_init_87 (tgt := 63) (by decide) ?_
  refine m3_iload hB dX4_init_63 rfl ?_
  refine m3_bipush hB dX4_init_65 (v := 6) (by decide) ?_
  refine m3_icmp_ge hB dX4_init_67 (tgt := 90) (by decide) (fun q => absurd q (by decide)) (fun _ => ?_)
  refine m3_aload_n hB dX4_init_70 rfl ?_
  refine m3_getR hB (c0 := 49) (c1 := 50) (x := 0) (vs := [(10, 0), (17, 0), (48, 0), (52, 0), (53, 0), (54, 0), (55, 0), (0, 0), (0, 0), (0, 0), (0, 0), (0, 0), (0, 0), (56, 0), (0, 0)]) dX4_init_71 fl_X4_13 (by decide +kernel) (by decide +kernel) ?_
  refine m3_iload hB dX4_init_74 rfl ?_
  refine m3_newO hB (C := RX3) (ci := 3) (N := 8) (vs := dfX3) (c1 := 75) kl_X3 cl_X4_11 (by decide +kernel) dX4_init_76 ?_
  refine m3_dup hB dX4_init_79 rfl ?_
  refine m3_invN hB (c0 := 75) (as := []) dX4_init_80 jn_X4_42 rfl (by decide) rfl (by decide +kernel) (by decide +kernel) (by decide +kernel) (by decide +kernel) (K_X3 (n := 75) (by decide +kernel) (by decide)) ?_
  refine m3_aast hB (c0 := 50) (c1 := 75) (N := 6) (j := 4) (rs := [(57, 0), (62, 0), (67, 0), (72, 0), (1, 0), (1, 0)]) (vs := [(78, 0), (79, 0), (80, 0), (81, 0), (0, 0), (0, 0), (0, 0), (0, 0)]) dX4_init_83 (by decide +kernel) (by decide +kernel) (by decide) (by unfold vp_in; decide) (by decide) (by decide +kernel) ?_
  refine m3_iinc hB (v := 5) (ls' := [.ref 49, .ref 8, .ref 15, .ref 46, .int 5]) dX4_init_84 rfl (by decide) (by decide) rfl ?_
  refine m3_goto hB dX4_init_87 (tgt := 63) (by decide) ?_
  refine m3_iload hB dX4_init_63 rfl ?_
  refine m3_bipush hB dX4_init_65 (v := 6) (by decide) ?_
  refine m3_icmp_ge hB dX4_init_67 (tgt := 90) (by decide) (fun q => absurd q (by decide)) (fun _ => ?_)
  refine m3_aload_n hB dX4_init_70 rfl ?_
  refine m3_getR hB (c0 := 49) (c1 := 50) (x := 0) (vs := [(10, 0), (17, 0), (48, 0), (52, 0), (53, 0), (54, 0), (55, 0), (0, 0), (0, 0), (0, 0), (0, 0), (0, 0), (0, 0), (56, 0), (0, 0)]) dX4_init_71 fl_X4_13 (by decide +kernel) (by decide +kernel) ?_
  refine m3_iload hB dX4_init_74 rfl ?_
  refine m3_newO hB (C := RX3) (ci := 3) (N := 8) (vs := dfX3) (c1 := 80) kl_X3 cl_X4_11 (by decide +kernel) dX4_init_76 ?_
  refine m3_dup hB dX4_init_79 rfl ?_
  refine m3_invN hB (c0 := 80) (as := []) dX4_init_80 jn_X4_42 rfl (by decide) rfl (by decide +kernel) (by decide +kernel) (by decide +kernel) (by decide +kernel) (K_X3 (n := 80) (by decide +kernel) (by decide)) ?_
  refine m3_aast hB (c0 := 50) (c1 := 80) (N := 6) (j := 5) (rs := [(57, 0), (62, 0), (67, 0), (72, 0), (77, 0), (1, 0)]) (vs := [(83, 0), (84, 0), (85, 0), (86, 0), (0, 0), (0, 0), (0, 0), (0, 0)]) dX4_init_83 (by decide +kernel) (by decide +kernel) (by decide) (by unfold vp_in; decide) (by decide) (by decide +kernel) ?_
  refine m3_iinc hB (v := 6) (ls' := [.ref 49, .ref 8, .ref 15, .ref 46, .int 6]) dX4_init_84 rfl (by decide) (by decide) rfl ?_
  refine m3_goto hB dX4_init_87 (tgt := 63) (by decide) ?_
  refine m3_iload hB dX4_init_63 rfl ?_
  refine m3_bipush hB dX4_init_65 (v := 6) (by decide) ?_
  refine m3_icmp_ge hB dX4_init_67 (tgt := 90) (by decide) (fun _ => ?_) (fun q => absurd (by decide) q)
  refine m3_to (μ' := wB_X4) (by decide +kernel) ?_
  exact m3_vret h dX4_init_90
