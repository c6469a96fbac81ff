/-! The static world: every cell that the class and its reference make, by number. -/
abbrev m2M : Type := (Nat → Nat → Int32) × (Nat → Nat → Int64)
/-- a cell's shape: an array (kind of its elements, length, the cells it holds) or an object (number of its class, kinds of its fields: 0 a number, 1 the one reference that moves, k + 2 cell k) -/
abbrev m2S : Type := (Nat × Nat × List Nat) ⊕ (Nat × List Nat)
def m2_SH : List m2S := [.inr (11, [3, 0, 4, 0, 5, 6, 7, 0, 8, 9, 10, 17, 26, 27, 34, 39, 48, 51, 57, 62]),
  .inl (1, 80, []),
  .inl (3, 16, []),
  .inl (2, 20, []),
  .inl (2, 20, []),
  .inl (2, 20, []),
  .inl (3, 61, []),
  .inl (5, 4, [107, 112, 117, 122]),
  .inr (0, [11, 12, 13, 14, 15, 16, 0, 0]),
  .inl (2, 20, []),
  .inl (2, 20, []),
  .inl (4, 20, []),
  .inl (2, 20, []),
  .inl (2, 20, []),
  .inl (2, 20, []),
  .inr (6, [18, 19, 20, 21, 22, 23, 24, 25, 0]),
  .inl (2, 8, []),
  .inl (2, 8, []),
  .inl (4, 8, []),
  .inl (2, 8, []),
  .inl (2, 8, []),
  .inl (4, 8, []),
  .inl (4, 8, []),
  .inl (4, 8, []),
  .inr (2, [3, 10, 17, 0, 0, 0, 0, 0]),
  .inr (7, [3, 28, 0, 0, 29, 0, 30, 0, 31, 0, 0, 0, 0, 32, 33]),
  .inl (2, 40, []),
  .inl (2, 40, []),
  .inl (2, 40, []),
  .inl (4, 5, []),
  .inl (2, 40, []),
  .inl (2, 6, []),
  .inr (8, [10, 35, 36, 37, 38]),
  .inl (2, 20, []),
  .inl (2, 12, []),
  .inl (2, 12, []),
  .inl (2, 12, []),
  .inr (1, [40, 41, 42, 43, 44, 45, 0, 0, 46, 47, 0]),
  .inl (2, 21, []),
  .inl (2, 21, []),
  .inl (4, 21, []),
  .inl (2, 21, []),
  .inl (2, 21, []),
  .inl (2, 20, []),
  .inl (2, 12, []),
  .inl (2, 12, []),
  .inr (10, [10, 17, 34, 27, 49, 50, 0, 0, 0]),
  .inl (2, 20, []),
  .inl (2, 20, []),
  .inr (4, [10, 17, 48, 52, 53, 54, 55, 0, 0, 0, 0, 0, 0, 56, 0]),
  .inl (5, 6, [127, 132, 137, 142, 147, 152]),
  .inl (2, 6, []),
  .inl (2, 6, []),
  .inl (2, 6, []),
  .inl (2, 6, []),
  .inr (9, [34, 58, 59, 60, 61, 0]),
  .inl (2, 6, []),
  .inl (6, 6, [157, 158, 159, 160, 161, 162]),
  .inl (6, 64, [163, 164, 165, 166, 167, 168, 169, 170, 171, 172, 173, 174, 175, 176, 177, 178, 179, 180, 181, 182, 183, 184, 185, 186, 187, 188, 189, 190, 191, 192, 193, 194, 195, 196, 197, 198, 199, 200, 201, 202, 203, 204, 205, 206, 207, 208, 209, 210, 211, 212, 213, 214, 215, 216, 217, 218, 219, 220, 221, 222, 223, 224, 225, 226]),
  .inl (2, 6, []),
  .inr (5, [10, 34, 63, 64, 65, 0, 66, 0, 0, 0, 0, 0, 0, 0]),
  .inl (2, 12, []),
  .inl (2, 5, []),
  .inl (2, 5, []),
  .inl (2, 5, []),
  .inr (12, [0, 68, 69, 70, 71, 72, 73, 0, 74, 75, 76, 77, 78, 79, 80, 81, 0, 0, 82, 0, 83, 0, 0, 1, 0, 0, 0, 0, 84, 0, 0, 0, 85, 86, 87, 88, 89, 0, 90, 91, 92, 93, 0, 0, 0, 0, 94, 95, 0, 0, 96, 97, 0, 98, 99, 100, 101, 0, 0, 0, 0, 0, 0, 102, 0, 103, 104, 105, 106, 107, 108]),
  .inl (2, 20, []),
  .inl (2, 20, []),
  .inl (4, 20, []),
  .inl (2, 20, []),
  .inl (2, 20, []),
  .inl (2, 20, []),
  .inl (2, 8, []),
  .inl (2, 8, []),
  .inl (4, 8, []),
  .inl (2, 8, []),
  .inl (2, 8, []),
  .inl (4, 8, []),
  .inl (4, 8, []),
  .inl (4, 8, []),
  .inl (0, 80, []),
  .inl (3, 40, []),
  .inl (0, 40, []),
  .inl (2, 20, []),
  .inl (2, 20, []),
  .inl (2, 20, []),
  .inl (3, 12, []),
  .inl (2, 12, []),
  .inl (2, 196, []),
  .inl (2, 14, []),
  .inl (2, 14, []),
  .inl (2, 180, []),
  .inl (2, 6, []),
  .inl (2, 6, []),
  .inl (2, 6, []),
  .inl (2, 6, []),
  .inl (2, 5, []),
  .inl (2, 5, []),
  .inl (2, 12, []),
  .inl (2, 20, []),
  .inl (3, 671, []),
  .inl (2, 20, []),
  .inl (2, 20, []),
  .inl (2, 20, []),
  .inl (4, 3, []),
  .inl (2, 3, []),
  .inl (2, 3, []),
  .inr (3, [110, 111, 112, 113, 0, 0, 0, 0]),
  .inl (2, 20, []),
  .inl (2, 8, []),
  .inl (4, 8, []),
  .inl (4, 8, []),
  .inr (3, [115, 116, 117, 118, 0, 0, 0, 0]),
  .inl (2, 20, []),
  .inl (2, 8, []),
  .inl (4, 8, []),
  .inl (4, 8, []),
  .inr (3, [120, 121, 122, 123, 0, 0, 0, 0]),
  .inl (2, 20, []),
  .inl (2, 8, []),
  .inl (4, 8, []),
  .inl (4, 8, []),
  .inr (3, [125, 126, 127, 128, 0, 0, 0, 0]),
  .inl (2, 20, []),
  .inl (2, 8, []),
  .inl (4, 8, []),
  .inl (4, 8, []),
  .inr (3, [130, 131, 132, 133, 0, 0, 0, 0]),
  .inl (2, 20, []),
  .inl (2, 8, []),
  .inl (4, 8, []),
  .inl (4, 8, []),
  .inr (3, [135, 136, 137, 138, 0, 0, 0, 0]),
  .inl (2, 20, []),
  .inl (2, 8, []),
  .inl (4, 8, []),
  .inl (4, 8, []),
  .inr (3, [140, 141, 142, 143, 0, 0, 0, 0]),
  .inl (2, 20, []),
  .inl (2, 8, []),
  .inl (4, 8, []),
  .inl (4, 8, []),
  .inr (3, [145, 146, 147, 148, 0, 0, 0, 0]),
  .inl (2, 20, []),
  .inl (2, 8, []),
  .inl (4, 8, []),
  .inl (4, 8, []),
  .inr (3, [150, 151, 152, 153, 0, 0, 0, 0]),
  .inl (2, 20, []),
  .inl (2, 8, []),
  .inl (4, 8, []),
  .inl (4, 8, []),
  .inr (3, [155, 156, 157, 158, 0, 0, 0, 0]),
  .inl (2, 20, []),
  .inl (2, 8, []),
  .inl (4, 8, []),
  .inl (4, 8, []),
  .inl (2, 12, []),
  .inl (2, 12, []),
  .inl (2, 12, []),
  .inl (2, 12, []),
  .inl (2, 12, []),
  .inl (2, 12, []),
  .inl (2, 6, []),
  .inl (2, 6, []),
  .inl (2, 6, []),
  .inl (2, 6, []),
  .inl (2, 6, []),
  .inl (2, 6, []),
  .inl (2, 6, []),
  .inl (2, 6, []),
  .inl (2, 6, []),
  .inl (2, 6, []),
  .inl (2, 6, []),
  .inl (2, 6, []),
  .inl (2, 6, []),
  .inl (2, 6, []),
  .inl (2, 6, []),
  .inl (2, 6, []),
  .inl (2, 6, []),
  .inl (2, 6, []),
  .inl (2, 6, []),
  .inl (2, 6, []),
  .inl (2, 6, []),
  .inl (2, 6, []),
  .inl (2, 6, []),
  .inl (2, 6, []),
  .inl (2, 6, []),
  .inl (2, 6, []),
  .inl (2, 6, []),
  .inl (2, 6, []),
  .inl (2, 6, []),
  .inl (2, 6, []),
  .inl (2, 6, []),
  .inl (2, 6, []),
  .inl (2, 6, []),
  .inl (2, 6, []),
  .inl (2, 6, []),
  .inl (2, 6, []),
  .inl (2, 6, []),
  .inl (2, 6, []),
  .inl (2, 6, []),
  .inl (2, 6, []),
  .inl (2, 6, []),
  .inl (2, 6, []),
  .inl (2, 6, []),
  .inl (2, 6, []),
  .inl (2, 6, []),
  .inl (2, 6, []),
  .inl (2, 6, []),
  .inl (2, 6, []),
  .inl (2, 6, []),
  .inl (2, 6, []),
  .inl (2, 6, []),
  .inl (2, 6, []),
  .inl (2, 6, []),
  .inl (2, 6, []),
  .inl (2, 6, []),
  .inl (2, 6, []),
  .inl (2, 6, []),
  .inl (2, 6, []),
  .inl (2, 6, []),
  .inl (2, 6, []),
  .inl (2, 6, []),
  .inl (2, 6, []),
  .inl (2, 6, []),
  .inl (2, 6, []),
  .inl (3, 1, [])]
abbrev m2_NC : Nat := 228
theorem m2_NC_eq : m2_SH.length = m2_NC := by decide +kernel
abbrev kC : Nat := 0
abbrev kC_text : Nat := 1
abbrev sC_textSize : Nat := 1
abbrev kC_row : Nat := 2
abbrev sC_rowSize : Nat := 3
abbrev kC_sayingMaid : Nat := 3
abbrev kC_sayingDoor : Nat := 4
abbrev kC_sayingNumber : Nat := 5
abbrev sC_sayings : Nat := 7
abbrev kC_hopes : Nat := 6
abbrev kC_kept : Nat := 7
abbrev kD : Nat := 8
abbrev kD_a : Nat := 9
abbrev kD_b : Nat := 10
abbrev kD_oneWay : Nat := 11
abbrev kD_lets : Nat := 12
abbrev kD_noon : Nat := 13
abbrev kD_left : Nat := 14
abbrev sD_size : Nat := 6
abbrev sD_hour : Nat := 7
abbrev kP : Nat := 15
abbrev kP_where : Nat := 16
abbrev kP_first : Nat := 17
abbrev kP_stranger : Nat := 18
abbrev kP_worth : Nat := 19
abbrev kP_errand : Nat := 20
abbrev kP_back : Nat := 21
abbrev kP_reached : Nat := 22
abbrev kP_done : Nat := 23
abbrev sP_size : Nat := 8
abbrev kH : Nat := 24
abbrev sH_limit : Nat := 3
abbrev sH_at : Nat := 4
abbrev sH_number : Nat := 5
abbrev sH_doorsRead : Nat := 6
abbrev sH_peopleRead : Nat := 7
abbrev kE : Nat := 25
abbrev kE_code : Nat := 26
abbrev sE_size : Nat := 2
abbrev sE_asksCrowd : Nat := 3
abbrev kE_draft : Nat := 27
abbrev sE_drafted : Nat := 5
abbrev kE_waiting : Nat := 28
abbrev sE_waits : Nat := 7
abbrev kE_compared : Nat := 29
abbrev sE_depth : Nat := 9
abbrev sE_limit : Nat := 10
abbrev sE_at : Nat := 11
abbrev sE_wantsThing : Nat := 12
abbrev kE_stack : Nat := 30
abbrev kE_known : Nat := 31
abbrev kR : Nat := 32
abbrev kR_cost : Nat := 33
abbrev kR_dist : Nat := 34
abbrev kR_step : Nat := 35
abbrev kR_found : Nat := 36
abbrev kF : Nat := 37
abbrev kF_a : Nat := 38
abbrev kF_b : Nat := 39
abbrev kF_oneWay : Nat := 40
abbrev kF_lets : Nat := 41
abbrev kF_net : Nat := 42
abbrev kF_gain : Nat := 43
abbrev sF_loaded : Nat := 6
abbrev sF_size : Nat := 7
abbrev kF_via : Nat := 44
abbrev kF_queue : Nat := 45
abbrev sF_reached : Nat := 10
abbrev kW : Nat := 46
abbrev kW_onWay : Nat := 47
abbrev kW_strangersOnWay : Nat := 48
abbrev sW_keepBack : Nat := 6
abbrev sW_passed : Nat := 7
abbrev sW_stranded : Nat := 8
abbrev kO : Nat := 49
abbrev kO_levels : Nat := 50
abbrev kO_goers : Nat := 51
abbrev kO_tried : Nat := 52
abbrev kO_best : Nat := 53
abbrev sO_size : Nat := 7
abbrev sO_bestWorth : Nat := 8
abbrev sO_bestPassed : Nat := 9
abbrev sO_plan : Nat := 10
abbrev sO_hope : Nat := 11
abbrev sO_passed : Nat := 12
abbrev kO_must : Nat := 54
abbrev sO_mustAll : Nat := 14
abbrev kT : Nat := 55
abbrev kT_rooms : Nat := 56
abbrev kT_far : Nat := 57
abbrev kT_rest : Nat := 58
abbrev kT_arranged : Nat := 59
abbrev sT_size : Nat := 5
abbrev kA : Nat := 60
abbrev kA_toGoal : Nat := 61
abbrev kA_tried : Nat := 62
abbrev kA_first : Nat := 63
abbrev sA_firstSize : Nat := 5
abbrev kA_second : Nat := 64
abbrev sA_secondSize : Nat := 7
abbrev sA_fewest : Nat := 8
abbrev sA_goal : Nat := 9
abbrev sA_otherFrom : Nat := 10
abbrev sA_otherGoal : Nat := 11
abbrev sA_otherLeast : Nat := 12
abbrev sA_bothCount : Nat := 13
abbrev kM : Nat := 65
abbrev sM_doors : Nat := 0
abbrev kM_doorA : Nat := 66
abbrev kM_doorB : Nat := 67
abbrev kM_isOneWay : Nat := 68
abbrev kM_lets : Nat := 69
abbrev kM_left : Nat := 70
abbrev kM_atNoon : Nat := 71
abbrev sM_people : Nat := 7
abbrev kM_where : Nat := 72
abbrev kM_home : Nat := 73
abbrev kM_isStranger : Nat := 74
abbrev kM_worth : Nat := 75
abbrev kM_errand : Nat := 76
abbrev kM_comesBack : Nat := 77
abbrev kM_wasThere : Nat := 78
abbrev kM_isDone : Nat := 79
abbrev sM_hour : Nat := 16
abbrev sM_keep : Nat := 17
abbrev kM_text : Nat := 80
abbrev sM_typed : Nat := 19
abbrev kM_row : Nat := 81
abbrev sM_rowMany : Nat := 21
abbrev sM_thrown : Nat := 22
abbrev sM_read : Nat := 23
abbrev sM_size : Nat := 24
abbrev sM_top : Nat := 25
abbrev sM_at : Nat := 26
abbrev sM_wrong : Nat := 27
abbrev kM_price : Nat := 82
abbrev sM_priceSize : Nat := 29
abbrev sM_askedDoor : Nat := 30
abbrev sM_askedOne : Nat := 31
abbrev kM_onTheirWay : Nat := 83
abbrev kM_isOnWay : Nat := 84
abbrev kM_cost : Nat := 85
abbrev kM_far : Nat := 86
abbrev kM_way : Nat := 87
abbrev sM_wayMany : Nat := 37
abbrev kM_can : Nat := 88
abbrev kM_cameFrom : Nat := 89
abbrev kM_queue : Nat := 90
abbrev kM_put : Nat := 91
abbrev sM_dayDone : Nat := 42
abbrev sM_dayWorth : Nat := 43
abbrev sM_dayDoors : Nat := 44
abbrev sM_dayCant : Nat := 45
abbrev kM_line : Nat := 92
abbrev kM_bestLine : Nat := 93
abbrev sM_bestWorth : Nat := 48
abbrev sM_bestDoors : Nat := 49
abbrev kM_tour : Nat := 94
abbrev kM_bestTour : Nat := 95
abbrev sM_tourDoors : Nat := 52
abbrev kM_firstWay : Nat := 96
abbrev kM_secondWay : Nat := 97
abbrev kM_bestTwo : Nat := 98
abbrev kM_wasLeft : Nat := 99
abbrev sM_firstMany : Nat := 57
abbrev sM_twoDoors : Nat := 58
abbrev sM_two0 : Nat := 59
abbrev sM_two1 : Nat := 60
abbrev sM_room0 : Nat := 61
abbrev sM_room1 : Nat := 62
abbrev kM_hope : Nat := 100
abbrev sM_sayings : Nat := 64
abbrev kM_saysWho : Nat := 101
abbrev kM_saysDoor : Nat := 102
abbrev kM_saysNumber : Nat := 103
abbrev kM_isKept : Nat := 104
abbrev kM_keptDoors : Nat := 105
abbrev kM_keptPeople : Nat := 106
abbrev kK (i : Nat) : Nat := 107 + 5 * i
abbrev sK_doorsKept : Nat := 4
abbrev sK_peopleKept : Nat := 5
abbrev sK_hour : Nat := 6
abbrev sK_filled : Nat := 7
abbrev kFar (i : Nat) : Nat := 157 + i
abbrev kRest (i : Nat) : Nat := 163 + i
abbrev kOut : Nat := 227
