theorem dL_law_23 : decode code 23 = .ok (.iload 4, 2) := by decide +kernel
theorem dL_law_25 : decode code 25 = .ok (.aload_n 0, 1) := by decide +kernel
theorem dL_law_26 : decode code 26 = .ok (.arraylength, 1) := by decide +kernel
theorem dL_law_27 : decode code 27 = .ok (.bipush 7, 2) := by decide +kernel
theorem dL_law_29 : decode code 29 = .ok (.isub, 1) := by decide +kernel
theorem dL_law_30 : decode code 30 = .ok (.if_icmp .gt 1704, 3) := by decide +kernel
theorem dL_law_33 : decode code 33 = .ok (.aload_n 0, 1) := by decide +kernel
theorem dL_law_34 : decode code 34 = .ok (.iload 4, 2) := by decide +kernel
theorem dL_law_36 : decode code 36 = .ok (.iaload, 1) := by decide +kernel
theorem dL_law_37 : decode code 37 = .ok (.bipush 63, 2) := by decide +kernel
theorem dL_law_39 : decode code 39 = .ok (.iand, 1) := by decide +kernel
theorem dL_law_40 : decode code 40 = .ok (.tableswitch 1688 0 41 #[184, 209, 234, 247, 260, 328, 396, 457, 482, 507, 544, 581, 606, 643, 680, 717, 730, 767, 804, 853, 878, 939, 988, 1013, 1038, 1063, 1088, 1113, 1126, 1151, 1176, 1213, 1238, 1299, 1386, 1423, 1472, 1497, 1558, 1583, 1608, 1633], 184) := by decide +kernel
theorem dL_law_1728 : decode code 1728 = .ok (.iinc 4 7, 3) := by decide +kernel
theorem dL_law_1731 : decode code 1731 = .ok (.goto (-1708), 3) := by decide +kernel
theorem lw_gt {i L : Nat} (hL : L ≤ 3584) (hi : i ≤ 3600) : nI L - 7 < nI i ↔ L < i + 7 := by
  rw [Int32.lt_iff_toInt_lt, nI_toInt (by omega)]
  have e : (nI L - 7 : Int32).toInt = (L : Int) - 7 := by
    by_cases h : 7 ≤ L
    · obtain ⟨m, rfl⟩ : ∃ m, L = m + 7 := ⟨L - 7, by omega⟩
      have e1 : nI (m + 7) - 7 = nI m := by
        rw [← nI_add]
        show nI m + 7 - 7 = nI m
        first | exact Int32.add_sub_cancel _ _ | simp
      rw [e1, nI_toInt (by omega)]
      omega
    · have h9 : L = 0 ∨ L = 1 ∨ L = 2 ∨ L = 3 ∨ L = 4 ∨ L = 5 ∨ L = 6 := by omega
      rcases h9 with rfl | rfl | rfl | rfl | rfl | rfl | rfl <;> decide
  rw [e]
  omega
set_option maxRecDepth 100000 in
set_option maxHeartbeats 4000000 in
theorem LW_turn {κ : Nat → Nat → List Value → List Value → m2M → Prop} {mx D L : Nat} {xs : Nat → Int32} (h : m2_LW κ mx (D + 1) L xs) (hL : L ≤ 3584) (hD : 420 ≤ D) {n i : Nat} {μ : m2M} (hn : n < mx) (hi : i + 7 ≤ L) (hR : REL μ) (k : ∀ μ', REL μ' → κ (n + 1) 1728 [.ref 1002, .ref kC, .ref kM, .ref kOut, .int (nI i), .null, .null, .null] [] μ') : κ n 33 [.ref 1002, .ref kC, .ref kM, .ref kOut, .int (nI i), .null, .null, .null] [] μ := by
  have hB := h.b (Nat.le_of_lt hn)
  have k0 : ∀ μ', REL μ' → κ n 1728 [.ref 1002, .ref kC, .ref kM, .ref kOut, .int (nI i), .null, .null, .null] [] μ' := fun μ' q => h.up (Nat.le_succ n) (k μ' q)
  refine m2_aload_n hB dL_law_33 rfl ?_
  refine m2_iload hB dL_law_34 rfl ?_
  refine h.ld (vp_in_nI (by omega) (by omega)) dL_law_36 ?_
  refine m2_bipush hB dL_law_37 (v := 63) (by decide) ?_
  refine m2_iand hB dL_law_39 ?_
  generalize (xs (nI i).toNatClampNeg &&& 63) = v
  by_cases q0 : v = 0
  · exact m2_tableIn hB dL_law_40 (off := 184) (tgt := 224) (by rw [q0]; decide) (by rw [q0]; decide) (by rw [q0]; decide) (by decide) (LC_0 h (Nat.le_of_lt hn) hi hL hD hR k0)
  by_cases q1 : v = 1
  · exact m2_tableIn hB dL_law_40 (off := 209) (tgt := 249) (by rw [q1]; decide) (by rw [q1]; decide) (by rw [q1]; decide) (by decide) (LC_1 h (Nat.le_of_lt hn) hi hL hD hR k0)
  by_cases q2 : v = 2
  · exact m2_tableIn hB dL_law_40 (off := 234) (tgt := 274) (by rw [q2]; decide) (by rw [q2]; decide) (by rw [q2]; decide) (by decide) (LC_2 h (Nat.le_of_lt hn) hi hL hD hR k0)
  by_cases q3 : v = 3
  · exact m2_tableIn hB dL_law_40 (off := 247) (tgt := 287) (by rw [q3]; decide) (by rw [q3]; decide) (by rw [q3]; decide) (by decide) (LC_3 h hn hi hL hD hR k0)
  by_cases q4 : v = 4
  · exact m2_tableIn hB dL_law_40 (off := 260) (tgt := 300) (by rw [q4]; decide) (by rw [q4]; decide) (by rw [q4]; decide) (by decide) (LC_4 h hn hi hL hD hR k)
  by_cases q5 : v = 5
  · exact m2_tableIn hB dL_law_40 (off := 328) (tgt := 368) (by rw [q5]; decide) (by rw [q5]; decide) (by rw [q5]; decide) (by decide) (LC_5 h hn hi hL hD hR k)
  by_cases q6 : v = 6
  · exact m2_tableIn hB dL_law_40 (off := 396) (tgt := 436) (by rw [q6]; decide) (by rw [q6]; decide) (by rw [q6]; decide) (by decide) (LC_6 h (Nat.le_of_lt hn) hi hL hD hR k0)
  by_cases q7 : v = 7
  · exact m2_tableIn hB dL_law_40 (off := 457) (tgt := 497) (by rw [q7]; decide) (by rw [q7]; decide) (by rw [q7]; decide) (by decide) (LC_7 h (Nat.le_of_lt hn) hi hL hD hR k0)
  by_cases q8 : v = 8
  · exact m2_tableIn hB dL_law_40 (off := 482) (tgt := 522) (by rw [q8]; decide) (by rw [q8]; decide) (by rw [q8]; decide) (by decide) (LC_8 h (Nat.le_of_lt hn) hi hL hD hR k0)
  by_cases q9 : v = 9
  · exact m2_tableIn hB dL_law_40 (off := 507) (tgt := 547) (by rw [q9]; decide) (by rw [q9]; decide) (by rw [q9]; decide) (by decide) (LC_9 h (Nat.le_of_lt hn) hi hL hD hR k0)
  by_cases q10 : v = 10
  · exact m2_tableIn hB dL_law_40 (off := 544) (tgt := 584) (by rw [q10]; decide) (by rw [q10]; decide) (by rw [q10]; decide) (by decide) (LC_10 h (Nat.le_of_lt hn) hi hL hD hR k0)
  by_cases q11 : v = 11
  · exact m2_tableIn hB dL_law_40 (off := 581) (tgt := 621) (by rw [q11]; decide) (by rw [q11]; decide) (by rw [q11]; decide) (by decide) (LC_11 h (Nat.le_of_lt hn) hi hL hD hR k0)
  by_cases q12 : v = 12
  · exact m2_tableIn hB dL_law_40 (off := 606) (tgt := 646) (by rw [q12]; decide) (by rw [q12]; decide) (by rw [q12]; decide) (by decide) (LC_12 h (Nat.le_of_lt hn) hi hL hD hR k0)
  by_cases q13 : v = 13
  · exact m2_tableIn hB dL_law_40 (off := 643) (tgt := 683) (by rw [q13]; decide) (by rw [q13]; decide) (by rw [q13]; decide) (by decide) (LC_13 h (Nat.le_of_lt hn) hi hL hD hR k0)
  by_cases q14 : v = 14
  · exact m2_tableIn hB dL_law_40 (off := 680) (tgt := 720) (by rw [q14]; decide) (by rw [q14]; decide) (by rw [q14]; decide) (by decide) (LC_14 h (Nat.le_of_lt hn) hi hL hD hR k0)
  by_cases q15 : v = 15
  · exact m2_tableIn hB dL_law_40 (off := 717) (tgt := 757) (by rw [q15]; decide) (by rw [q15]; decide) (by rw [q15]; decide) (by decide) (LC_15 h (Nat.le_of_lt hn) hi hL hD hR k0)
  by_cases q16 : v = 16
  · exact m2_tableIn hB dL_law_40 (off := 730) (tgt := 770) (by rw [q16]; decide) (by rw [q16]; decide) (by rw [q16]; decide) (by decide) (LC_16 h (Nat.le_of_lt hn) hi hL hD hR k0)
  by_cases q17 : v = 17
  · exact m2_tableIn hB dL_law_40 (off := 767) (tgt := 807) (by rw [q17]; decide) (by rw [q17]; decide) (by rw [q17]; decide) (by decide) (LC_17 h (Nat.le_of_lt hn) hi hL hD hR k0)
  by_cases q18 : v = 18
  · exact m2_tableIn hB dL_law_40 (off := 804) (tgt := 844) (by rw [q18]; decide) (by rw [q18]; decide) (by rw [q18]; decide) (by decide) (LC_18 h (Nat.le_of_lt hn) hi hL hD hR k0)
  by_cases q19 : v = 19
  · exact m2_tableIn hB dL_law_40 (off := 853) (tgt := 893) (by rw [q19]; decide) (by rw [q19]; decide) (by rw [q19]; decide) (by decide) (LC_19 h (Nat.le_of_lt hn) hi hL hD hR k0)
  by_cases q20 : v = 20
  · exact m2_tableIn hB dL_law_40 (off := 878) (tgt := 918) (by rw [q20]; decide) (by rw [q20]; decide) (by rw [q20]; decide) (by decide) (LC_20 h (Nat.le_of_lt hn) hi hL hD hR k0)
  by_cases q21 : v = 21
  · exact m2_tableIn hB dL_law_40 (off := 939) (tgt := 979) (by rw [q21]; decide) (by rw [q21]; decide) (by rw [q21]; decide) (by decide) (LC_21 h (Nat.le_of_lt hn) hi hL hD hR k0)
  by_cases q22 : v = 22
  · exact m2_tableIn hB dL_law_40 (off := 988) (tgt := 1028) (by rw [q22]; decide) (by rw [q22]; decide) (by rw [q22]; decide) (by decide) (LC_22 h (Nat.le_of_lt hn) hi hL hD hR k0)
  by_cases q23 : v = 23
  · exact m2_tableIn hB dL_law_40 (off := 1013) (tgt := 1053) (by rw [q23]; decide) (by rw [q23]; decide) (by rw [q23]; decide) (by decide) (LC_23 h (Nat.le_of_lt hn) hi hL hD hR k0)
  by_cases q24 : v = 24
  · exact m2_tableIn hB dL_law_40 (off := 1038) (tgt := 1078) (by rw [q24]; decide) (by rw [q24]; decide) (by rw [q24]; decide) (by decide) (LC_24 h (Nat.le_of_lt hn) hi hL hD hR k0)
  by_cases q25 : v = 25
  · exact m2_tableIn hB dL_law_40 (off := 1063) (tgt := 1103) (by rw [q25]; decide) (by rw [q25]; decide) (by rw [q25]; decide) (by decide) (LC_25 h (Nat.le_of_lt hn) hi hL hD hR k0)
  by_cases q26 : v = 26
  · exact m2_tableIn hB dL_law_40 (off := 1088) (tgt := 1128) (by rw [q26]; decide) (by rw [q26]; decide) (by rw [q26]; decide) (by decide) (LC_26 h (Nat.le_of_lt hn) hi hL hD hR k0)
  by_cases q27 : v = 27
  · exact m2_tableIn hB dL_law_40 (off := 1113) (tgt := 1153) (by rw [q27]; decide) (by rw [q27]; decide) (by rw [q27]; decide) (by decide) (LC_27 h (Nat.le_of_lt hn) hi hL hD hR k0)
  by_cases q28 : v = 28
  · exact m2_tableIn hB dL_law_40 (off := 1126) (tgt := 1166) (by rw [q28]; decide) (by rw [q28]; decide) (by rw [q28]; decide) (by decide) (LC_28 h (Nat.le_of_lt hn) hi hL hD hR k0)
  by_cases q29 : v = 29
  · exact m2_tableIn hB dL_law_40 (off := 1151) (tgt := 1191) (by rw [q29]; decide) (by rw [q29]; decide) (by rw [q29]; decide) (by decide) (LC_29 h (Nat.le_of_lt hn) hi hL hD hR k0)
  by_cases q30 : v = 30
  · exact m2_tableIn hB dL_law_40 (off := 1176) (tgt := 1216) (by rw [q30]; decide) (by rw [q30]; decide) (by rw [q30]; decide) (by decide) (LC_30 h (Nat.le_of_lt hn) hi hL hD hR k0)
  by_cases q31 : v = 31
  · exact m2_tableIn hB dL_law_40 (off := 1213) (tgt := 1253) (by rw [q31]; decide) (by rw [q31]; decide) (by rw [q31]; decide) (by decide) (LC_31 h (Nat.le_of_lt hn) hi hL hD hR k0)
  by_cases q32 : v = 32
  · exact m2_tableIn hB dL_law_40 (off := 1238) (tgt := 1278) (by rw [q32]; decide) (by rw [q32]; decide) (by rw [q32]; decide) (by decide) (LC_32 h (Nat.le_of_lt hn) hi hL hD hR k0)
  by_cases q33 : v = 33
  · exact m2_tableIn hB dL_law_40 (off := 1299) (tgt := 1339) (by rw [q33]; decide) (by rw [q33]; decide) (by rw [q33]; decide) (by decide) (LC_33 h (Nat.le_of_lt hn) hi hL hD hR k0)
  by_cases q34 : v = 34
  · exact m2_tableIn hB dL_law_40 (off := 1386) (tgt := 1426) (by rw [q34]; decide) (by rw [q34]; decide) (by rw [q34]; decide) (by decide) (LC_34 h (Nat.le_of_lt hn) hi hL hD hR k0)
  by_cases q35 : v = 35
  · exact m2_tableIn hB dL_law_40 (off := 1423) (tgt := 1463) (by rw [q35]; decide) (by rw [q35]; decide) (by rw [q35]; decide) (by decide) (LC_35 h (Nat.le_of_lt hn) hi hL hD hR k0)
  by_cases q36 : v = 36
  · exact m2_tableIn hB dL_law_40 (off := 1472) (tgt := 1512) (by rw [q36]; decide) (by rw [q36]; decide) (by rw [q36]; decide) (by decide) (LC_36 h (Nat.le_of_lt hn) hi hL hD hR k0)
  by_cases q37 : v = 37
  · exact m2_tableIn hB dL_law_40 (off := 1497) (tgt := 1537) (by rw [q37]; decide) (by rw [q37]; decide) (by rw [q37]; decide) (by decide) (LC_37 h (Nat.le_of_lt hn) hi hL hD hR k0)
  by_cases q38 : v = 38
  · exact m2_tableIn hB dL_law_40 (off := 1558) (tgt := 1598) (by rw [q38]; decide) (by rw [q38]; decide) (by rw [q38]; decide) (by decide) (LC_38 h (Nat.le_of_lt hn) hi hL hD hR k0)
  by_cases q39 : v = 39
  · exact m2_tableIn hB dL_law_40 (off := 1583) (tgt := 1623) (by rw [q39]; decide) (by rw [q39]; decide) (by rw [q39]; decide) (by decide) (LC_39 h (Nat.le_of_lt hn) hi hL hD hR k0)
  by_cases q40 : v = 40
  · exact m2_tableIn hB dL_law_40 (off := 1608) (tgt := 1648) (by rw [q40]; decide) (by rw [q40]; decide) (by rw [q40]; decide) (by decide) (LC_40 h (Nat.le_of_lt hn) hi hL hD hR k0)
  by_cases q41 : v = 41
  · exact m2_tableIn hB dL_law_40 (off := 1633) (tgt := 1673) (by rw [q41]; decide) (by rw [q41]; decide) (by rw [q41]; decide) (by decide) (LC_41 h hn hi hL hD hR k)
  exact m2_tableOut hB dL_law_40 (tgt := 1728) (by have z0 := lv_neT q0 (show (0 : Int32).toInt = 0 by decide); have z1 := lv_neT q1 (show (1 : Int32).toInt = 1 by decide); have z2 := lv_neT q2 (show (2 : Int32).toInt = 2 by decide); have z3 := lv_neT q3 (show (3 : Int32).toInt = 3 by decide); have z4 := lv_neT q4 (show (4 : Int32).toInt = 4 by decide); have z5 := lv_neT q5 (show (5 : Int32).toInt = 5 by decide); have z6 := lv_neT q6 (show (6 : Int32).toInt = 6 by decide); have z7 := lv_neT q7 (show (7 : Int32).toInt = 7 by decide); have z8 := lv_neT q8 (show (8 : Int32).toInt = 8 by decide); have z9 := lv_neT q9 (show (9 : Int32).toInt = 9 by decide); have z10 := lv_neT q10 (show (10 : Int32).toInt = 10 by decide); have z11 := lv_neT q11 (show (11 : Int32).toInt = 11 by decide); have z12 := lv_neT q12 (show (12 : Int32).toInt = 12 by decide); have z13 := lv_neT q13 (show (13 : Int32).toInt = 13 by decide); have z14 := lv_neT q14 (show (14 : Int32).toInt = 14 by decide); have z15 := lv_neT q15 (show (15 : Int32).toInt = 15 by decide); have z16 := lv_neT q16 (show (16 : Int32).toInt = 16 by decide); have z17 := lv_neT q17 (show (17 : Int32).toInt = 17 by decide); have z18 := lv_neT q18 (show (18 : Int32).toInt = 18 by decide); have z19 := lv_neT q19 (show (19 : Int32).toInt = 19 by decide); have z20 := lv_neT q20 (show (20 : Int32).toInt = 20 by decide); have z21 := lv_neT q21 (show (21 : Int32).toInt = 21 by decide); have z22 := lv_neT q22 (show (22 : Int32).toInt = 22 by decide); have z23 := lv_neT q23 (show (23 : Int32).toInt = 23 by decide); have z24 := lv_neT q24 (show (24 : Int32).toInt = 24 by decide); have z25 := lv_neT q25 (show (25 : Int32).toInt = 25 by decide); have z26 := lv_neT q26 (show (26 : Int32).toInt = 26 by decide); have z27 := lv_neT q27 (show (27 : Int32).toInt = 27 by decide); have z28 := lv_neT q28 (show (28 : Int32).toInt = 28 by decide); have z29 := lv_neT q29 (show (29 : Int32).toInt = 29 by decide); have z30 := lv_neT q30 (show (30 : Int32).toInt = 30 by decide); have z31 := lv_neT q31 (show (31 : Int32).toInt = 31 by decide); have z32 := lv_neT q32 (show (32 : Int32).toInt = 32 by decide); have z33 := lv_neT q33 (show (33 : Int32).toInt = 33 by decide); have z34 := lv_neT q34 (show (34 : Int32).toInt = 34 by decide); have z35 := lv_neT q35 (show (35 : Int32).toInt = 35 by decide); have z36 := lv_neT q36 (show (36 : Int32).toInt = 36 by decide); have z37 := lv_neT q37 (show (37 : Int32).toInt = 37 by decide); have z38 := lv_neT q38 (show (38 : Int32).toInt = 38 by decide); have z39 := lv_neT q39 (show (39 : Int32).toInt = 39 by decide); have z40 := lv_neT q40 (show (40 : Int32).toInt = 40 by decide); have z41 := lv_neT q41 (show (41 : Int32).toInt = 41 by decide); omega) (by decide) (k0 μ hR)
theorem LW_loop {κ : Nat → Nat → List Value → List Value → m2M → Prop} {mx D L : Nat} {xs : Nat → Int32} (h : m2_LW κ mx (D + 1) L xs) (hL : L ≤ 3584) (hD : 420 ≤ D) (fin : ∀ (n i : Nat) (μ' : m2M), n ≤ mx → κ n 1734 [.ref 1002, .ref kC, .ref kM, .ref kOut, .int (nI i), .null, .null, .null] [] μ') : ∀ (r n i : Nat) (μ : m2M), REL μ → i ≤ L → L < i + 7 * r + 7 → n + r ≤ mx → κ n 23 [.ref 1002, .ref kC, .ref kM, .ref kOut, .int (nI i), .null, .null, .null] [] μ := by
  intro r
  induction r with
  | zero =>
    intro n i μ hR hi hr hn
    have hB := h.b (n := n) (by omega)
    refine m2_iload hB dL_law_23 rfl ?_
    refine m2_aload_n hB dL_law_25 rfl ?_
    refine h.len dL_law_26 ?_
    refine m2_bipush hB dL_law_27 (v := 7) (by decide) ?_
    refine m2_isub hB dL_law_29 ?_
    exact m2_icmp_gt hB dL_law_30 (tgt := 1734) (by decide) (fun _ => fin n i μ (by omega)) (fun q => absurd ((lw_gt hL (by omega)).mpr (by omega)) q)
  | succ r ih =>
    intro n i μ hR hi hr hn
    have hB := h.b (n := n) (by omega)
    refine m2_iload hB dL_law_23 rfl ?_
    refine m2_aload_n hB dL_law_25 rfl ?_
    refine h.len dL_law_26 ?_
    refine m2_bipush hB dL_law_27 (v := 7) (by decide) ?_
    refine m2_isub hB dL_law_29 ?_
    refine m2_icmp_gt hB dL_law_30 (tgt := 1734) (by decide) (fun _ => fin n i μ (by omega)) (fun q => ?_)
    have hi7 : i + 7 ≤ L := by
      by_cases z : i + 7 ≤ L
      · exact z
      · exact absurd ((lw_gt hL (by omega)).mpr (by omega)) q
    refine LW_turn h hL hD (by omega) hi7 hR (fun μ2 hR2 => ?_)
    have hB2 := h.b (n := n + 1) (by omega)
    refine m2_iinc hB2 (v := nI (i + 7)) (ls' := [.ref 1002, .ref kC, .ref kM, .ref kOut, .int (nI (i + 7)), .null, .null, .null]) dL_law_1728 rfl (by decide) (by rw [← nI_add]; rfl) rfl ?_
    exact m2_goto hB2 dL_law_1731 (tgt := 23) (by decide) (ih (n + 1) (i + 7) μ2 hR2 hi7 (by omega) (by omega))
