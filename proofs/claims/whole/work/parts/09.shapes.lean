theorem sh_kC : m2_sh kC = some (.inr (11, [3, 0, 4, 0, 5, 6, 7, 0, 8, 9, 10, 17, 26, 27, 34, 39, 48, 51, 57, 62])) := rfl
theorem sh_kC_text : m2_sh kC_text = some (.inl (1, 80, [])) := rfl
theorem sh_kC_row : m2_sh kC_row = some (.inl (3, 16, [])) := rfl
theorem sh_kC_sayingMaid : m2_sh kC_sayingMaid = some (.inl (2, 20, [])) := rfl
theorem sh_kC_sayingDoor : m2_sh kC_sayingDoor = some (.inl (2, 20, [])) := rfl
theorem sh_kC_sayingNumber : m2_sh kC_sayingNumber = some (.inl (2, 20, [])) := rfl
theorem sh_kC_hopes : m2_sh kC_hopes = some (.inl (3, 61, [])) := rfl
theorem sh_kC_kept : m2_sh kC_kept = some (.inl (5, 4, [107, 112, 117, 122])) := rfl
theorem sh_kD : m2_sh kD = some (.inr (0, [11, 12, 13, 14, 15, 16, 0, 0])) := rfl
theorem sh_kD_a : m2_sh kD_a = some (.inl (2, 20, [])) := rfl
theorem sh_kD_b : m2_sh kD_b = some (.inl (2, 20, [])) := rfl
theorem sh_kD_oneWay : m2_sh kD_oneWay = some (.inl (4, 20, [])) := rfl
theorem sh_kD_lets : m2_sh kD_lets = some (.inl (2, 20, [])) := rfl
theorem sh_kD_noon : m2_sh kD_noon = some (.inl (2, 20, [])) := rfl
theorem sh_kD_left : m2_sh kD_left = some (.inl (2, 20, [])) := rfl
theorem sh_kP : m2_sh kP = some (.inr (6, [18, 19, 20, 21, 22, 23, 24, 25, 0])) := rfl
theorem sh_kP_where : m2_sh kP_where = some (.inl (2, 8, [])) := rfl
theorem sh_kP_first : m2_sh kP_first = some (.inl (2, 8, [])) := rfl
theorem sh_kP_stranger : m2_sh kP_stranger = some (.inl (4, 8, [])) := rfl
theorem sh_kP_worth : m2_sh kP_worth = some (.inl (2, 8, [])) := rfl
theorem sh_kP_errand : m2_sh kP_errand = some (.inl (2, 8, [])) := rfl
theorem sh_kP_back : m2_sh kP_back = some (.inl (4, 8, [])) := rfl
theorem sh_kP_reached : m2_sh kP_reached = some (.inl (4, 8, [])) := rfl
theorem sh_kP_done : m2_sh kP_done = some (.inl (4, 8, [])) := rfl
theorem sh_kH : m2_sh kH = some (.inr (2, [3, 10, 17, 0, 0, 0, 0, 0])) := rfl
theorem sh_kE : m2_sh kE = some (.inr (7, [3, 28, 0, 0, 29, 0, 30, 0, 31, 0, 0, 0, 0, 32, 33])) := rfl
theorem sh_kE_code : m2_sh kE_code = some (.inl (2, 40, [])) := rfl
theorem sh_kE_draft : m2_sh kE_draft = some (.inl (2, 40, [])) := rfl
theorem sh_kE_waiting : m2_sh kE_waiting = some (.inl (2, 40, [])) := rfl
theorem sh_kE_compared : m2_sh kE_compared = some (.inl (4, 5, [])) := rfl
theorem sh_kE_stack : m2_sh kE_stack = some (.inl (2, 40, [])) := rfl
theorem sh_kE_known : m2_sh kE_known = some (.inl (2, 6, [])) := rfl
theorem sh_kR : m2_sh kR = some (.inr (8, [10, 35, 36, 37, 38])) := rfl
theorem sh_kR_cost : m2_sh kR_cost = some (.inl (2, 20, [])) := rfl
theorem sh_kR_dist : m2_sh kR_dist = some (.inl (2, 12, [])) := rfl
theorem sh_kR_step : m2_sh kR_step = some (.inl (2, 12, [])) := rfl
theorem sh_kR_found : m2_sh kR_found = some (.inl (2, 12, [])) := rfl
theorem sh_kF : m2_sh kF = some (.inr (1, [40, 41, 42, 43, 44, 45, 0, 0, 46, 47, 0])) := rfl
theorem sh_kF_a : m2_sh kF_a = some (.inl (2, 21, [])) := rfl
theorem sh_kF_b : m2_sh kF_b = some (.inl (2, 21, [])) := rfl
theorem sh_kF_oneWay : m2_sh kF_oneWay = some (.inl (4, 21, [])) := rfl
theorem sh_kF_lets : m2_sh kF_lets = some (.inl (2, 21, [])) := rfl
theorem sh_kF_net : m2_sh kF_net = some (.inl (2, 21, [])) := rfl
theorem sh_kF_gain : m2_sh kF_gain = some (.inl (2, 20, [])) := rfl
theorem sh_kF_via : m2_sh kF_via = some (.inl (2, 12, [])) := rfl
theorem sh_kF_queue : m2_sh kF_queue = some (.inl (2, 12, [])) := rfl
theorem sh_kW : m2_sh kW = some (.inr (10, [10, 17, 34, 27, 49, 50, 0, 0, 0])) := rfl
theorem sh_kW_onWay : m2_sh kW_onWay = some (.inl (2, 20, [])) := rfl
theorem sh_kW_strangersOnWay : m2_sh kW_strangersOnWay = some (.inl (2, 20, [])) := rfl
theorem sh_kO : m2_sh kO = some (.inr (4, [10, 17, 48, 52, 53, 54, 55, 0, 0, 0, 0, 0, 0, 56, 0])) := rfl
theorem sh_kO_levels : m2_sh kO_levels = some (.inl (5, 6, [127, 132, 137, 142, 147, 152])) := rfl
theorem sh_kO_goers : m2_sh kO_goers = some (.inl (2, 6, [])) := rfl
theorem sh_kO_tried : m2_sh kO_tried = some (.inl (2, 6, [])) := rfl
theorem sh_kO_best : m2_sh kO_best = some (.inl (2, 6, [])) := rfl
theorem sh_kO_must : m2_sh kO_must = some (.inl (2, 6, [])) := rfl
theorem sh_kT : m2_sh kT = some (.inr (9, [34, 58, 59, 60, 61, 0])) := rfl
theorem sh_kT_rooms : m2_sh kT_rooms = some (.inl (2, 6, [])) := rfl
theorem sh_kT_far : m2_sh kT_far = some (.inl (6, 6, [157, 158, 159, 160, 161, 162])) := rfl
theorem sh_kT_rest : m2_sh kT_rest = some (.inl (6, 64, [163, 164, 165, 166, 167, 168, 169, 170, 171, 172, 173, 174, 175, 176, 177, 178, 179, 180, 181, 182, 183, 184, 185, 186, 187, 188, 189, 190, 191, 192, 193, 194, 195, 196, 197, 198, 199, 200, 201, 202, 203, 204, 205, 206, 207, 208, 209, 210, 211, 212, 213, 214, 215, 216, 217, 218, 219, 220, 221, 222, 223, 224, 225, 226])) := rfl
theorem sh_kT_arranged : m2_sh kT_arranged = some (.inl (2, 6, [])) := rfl
theorem sh_kA : m2_sh kA = some (.inr (5, [10, 34, 63, 64, 65, 0, 66, 0, 0, 0, 0, 0, 0, 0])) := rfl
theorem sh_kA_toGoal : m2_sh kA_toGoal = some (.inl (2, 12, [])) := rfl
theorem sh_kA_tried : m2_sh kA_tried = some (.inl (2, 5, [])) := rfl
theorem sh_kA_first : m2_sh kA_first = some (.inl (2, 5, [])) := rfl
theorem sh_kA_second : m2_sh kA_second = some (.inl (2, 5, [])) := rfl
theorem sh_kM : m2_sh kM = some (.inr (12, [0, 68, 69, 70, 71, 72, 73, 0, 74, 75, 76, 77, 78, 79, 80, 81, 0, 0, 82, 0, 83, 0, 0, 1, 0, 0, 0, 0, 84, 0, 0, 0, 85, 86, 87, 88, 89, 0, 90, 91, 92, 93, 0, 0, 0, 0, 94, 95, 0, 0, 96, 97, 0, 98, 99, 100, 101, 0, 0, 0, 0, 0, 0, 102, 0, 103, 104, 105, 106, 107, 108])) := rfl
theorem sh_kM_doorA : m2_sh kM_doorA = some (.inl (2, 20, [])) := rfl
theorem sh_kM_doorB : m2_sh kM_doorB = some (.inl (2, 20, [])) := rfl
theorem sh_kM_isOneWay : m2_sh kM_isOneWay = some (.inl (4, 20, [])) := rfl
theorem sh_kM_lets : m2_sh kM_lets = some (.inl (2, 20, [])) := rfl
theorem sh_kM_left : m2_sh kM_left = some (.inl (2, 20, [])) := rfl
theorem sh_kM_atNoon : m2_sh kM_atNoon = some (.inl (2, 20, [])) := rfl
theorem sh_kM_where : m2_sh kM_where = some (.inl (2, 8, [])) := rfl
theorem sh_kM_home : m2_sh kM_home = some (.inl (2, 8, [])) := rfl
theorem sh_kM_isStranger : m2_sh kM_isStranger = some (.inl (4, 8, [])) := rfl
theorem sh_kM_worth : m2_sh kM_worth = some (.inl (2, 8, [])) := rfl
theorem sh_kM_errand : m2_sh kM_errand = some (.inl (2, 8, [])) := rfl
theorem sh_kM_comesBack : m2_sh kM_comesBack = some (.inl (4, 8, [])) := rfl
theorem sh_kM_wasThere : m2_sh kM_wasThere = some (.inl (4, 8, [])) := rfl
theorem sh_kM_isDone : m2_sh kM_isDone = some (.inl (4, 8, [])) := rfl
theorem sh_kM_text : m2_sh kM_text = some (.inl (0, 80, [])) := rfl
theorem sh_kM_row : m2_sh kM_row = some (.inl (3, 40, [])) := rfl
theorem sh_kM_price : m2_sh kM_price = some (.inl (0, 40, [])) := rfl
theorem sh_kM_onTheirWay : m2_sh kM_onTheirWay = some (.inl (2, 20, [])) := rfl
theorem sh_kM_isOnWay : m2_sh kM_isOnWay = some (.inl (2, 20, [])) := rfl
theorem sh_kM_cost : m2_sh kM_cost = some (.inl (2, 20, [])) := rfl
theorem sh_kM_far : m2_sh kM_far = some (.inl (3, 12, [])) := rfl
theorem sh_kM_way : m2_sh kM_way = some (.inl (2, 12, [])) := rfl
theorem sh_kM_can : m2_sh kM_can = some (.inl (2, 196, [])) := rfl
theorem sh_kM_cameFrom : m2_sh kM_cameFrom = some (.inl (2, 14, [])) := rfl
theorem sh_kM_queue : m2_sh kM_queue = some (.inl (2, 14, [])) := rfl
theorem sh_kM_put : m2_sh kM_put = some (.inl (2, 180, [])) := rfl
theorem sh_kM_line : m2_sh kM_line = some (.inl (2, 6, [])) := rfl
theorem sh_kM_bestLine : m2_sh kM_bestLine = some (.inl (2, 6, [])) := rfl
theorem sh_kM_tour : m2_sh kM_tour = some (.inl (2, 6, [])) := rfl
theorem sh_kM_bestTour : m2_sh kM_bestTour = some (.inl (2, 6, [])) := rfl
theorem sh_kM_firstWay : m2_sh kM_firstWay = some (.inl (2, 5, [])) := rfl
theorem sh_kM_secondWay : m2_sh kM_secondWay = some (.inl (2, 5, [])) := rfl
theorem sh_kM_bestTwo : m2_sh kM_bestTwo = some (.inl (2, 12, [])) := rfl
theorem sh_kM_wasLeft : m2_sh kM_wasLeft = some (.inl (2, 20, [])) := rfl
theorem sh_kM_hope : m2_sh kM_hope = some (.inl (3, 671, [])) := rfl
theorem sh_kM_saysWho : m2_sh kM_saysWho = some (.inl (2, 20, [])) := rfl
theorem sh_kM_saysDoor : m2_sh kM_saysDoor = some (.inl (2, 20, [])) := rfl
theorem sh_kM_saysNumber : m2_sh kM_saysNumber = some (.inl (2, 20, [])) := rfl
theorem sh_kM_isKept : m2_sh kM_isKept = some (.inl (4, 3, [])) := rfl
theorem sh_kM_keptDoors : m2_sh kM_keptDoors = some (.inl (2, 3, [])) := rfl
theorem sh_kM_keptPeople : m2_sh kM_keptPeople = some (.inl (2, 3, [])) := rfl
theorem sh_kOut : m2_sh kOut = some (.inl (3, 1, [])) := rfl
theorem m2_allK : ∀ i, i < 10 → m2_sh (kK i) = some (.inr (3, [kK i + 1 + 2, kK i + 2 + 2, kK i + 3 + 2, kK i + 4 + 2, 0, 0, 0, 0])) ∧ m2_sh (kK i + 1) = some (.inl (2, 20, [])) ∧ m2_sh (kK i + 2) = some (.inl (2, 8, [])) ∧ m2_sh (kK i + 3) = some (.inl (4, 8, [])) ∧ m2_sh (kK i + 4) = some (.inl (4, 8, []))
  | 0, _ => ⟨rfl, rfl, rfl, rfl, rfl⟩
  | 1, _ => ⟨rfl, rfl, rfl, rfl, rfl⟩
  | 2, _ => ⟨rfl, rfl, rfl, rfl, rfl⟩
  | 3, _ => ⟨rfl, rfl, rfl, rfl, rfl⟩
  | 4, _ => ⟨rfl, rfl, rfl, rfl, rfl⟩
  | 5, _ => ⟨rfl, rfl, rfl, rfl, rfl⟩
  | 6, _ => ⟨rfl, rfl, rfl, rfl, rfl⟩
  | 7, _ => ⟨rfl, rfl, rfl, rfl, rfl⟩
  | 8, _ => ⟨rfl, rfl, rfl, rfl, rfl⟩
  | 9, _ => ⟨rfl, rfl, rfl, rfl, rfl⟩
  | n + 10, h => absurd h (by omega)
theorem sh_kK {i : Nat} (h : i < 10) : m2_sh (kK i) = some (.inr (3, [kK i + 1 + 2, kK i + 2 + 2, kK i + 3 + 2, kK i + 4 + 2, 0, 0, 0, 0])) := (m2_allK i h).1
theorem sh_kK1 {i : Nat} (h : i < 10) : m2_sh (kK i + 1) = some (.inl (2, 20, [])) := (m2_allK i h).2.1
theorem sh_kK2 {i : Nat} (h : i < 10) : m2_sh (kK i + 2) = some (.inl (2, 8, [])) := (m2_allK i h).2.2.1
theorem sh_kK3 {i : Nat} (h : i < 10) : m2_sh (kK i + 3) = some (.inl (4, 8, [])) := (m2_allK i h).2.2.2.1
theorem sh_kK4 {i : Nat} (h : i < 10) : m2_sh (kK i + 4) = some (.inl (4, 8, [])) := (m2_allK i h).2.2.2.2
theorem m2_allFar : ∀ i, i < 6 → m2_sh (kFar i) = some (.inl (2, 12, []))
  | 0, _ => rfl
  | 1, _ => rfl
  | 2, _ => rfl
  | 3, _ => rfl
  | 4, _ => rfl
  | 5, _ => rfl
  | n + 6, h => absurd h (by omega)
theorem sh_kFar {i : Nat} (h : i < 6) : m2_sh (kFar i) = some (.inl (2, 12, [])) := m2_allFar i h
theorem m2_allRest : ∀ i, i < 64 → m2_sh (kRest i) = some (.inl (2, 6, []))
  | 0, _ => rfl
  | 1, _ => rfl
  | 2, _ => rfl
  | 3, _ => rfl
  | 4, _ => rfl
  | 5, _ => rfl
  | 6, _ => rfl
  | 7, _ => rfl
  | 8, _ => rfl
  | 9, _ => rfl
  | 10, _ => rfl
  | 11, _ => rfl
  | 12, _ => rfl
  | 13, _ => rfl
  | 14, _ => rfl
  | 15, _ => rfl
  | 16, _ => rfl
  | 17, _ => rfl
  | 18, _ => rfl
  | 19, _ => rfl
  | 20, _ => rfl
  | 21, _ => rfl
  | 22, _ => rfl
  | 23, _ => rfl
  | 24, _ => rfl
  | 25, _ => rfl
  | 26, _ => rfl
  | 27, _ => rfl
  | 28, _ => rfl
  | 29, _ => rfl
  | 30, _ => rfl
  | 31, _ => rfl
  | 32, _ => rfl
  | 33, _ => rfl
  | 34, _ => rfl
  | 35, _ => rfl
  | 36, _ => rfl
  | 37, _ => rfl
  | 38, _ => rfl
  | 39, _ => rfl
  | 40, _ => rfl
  | 41, _ => rfl
  | 42, _ => rfl
  | 43, _ => rfl
  | 44, _ => rfl
  | 45, _ => rfl
  | 46, _ => rfl
  | 47, _ => rfl
  | 48, _ => rfl
  | 49, _ => rfl
  | 50, _ => rfl
  | 51, _ => rfl
  | 52, _ => rfl
  | 53, _ => rfl
  | 54, _ => rfl
  | 55, _ => rfl
  | 56, _ => rfl
  | 57, _ => rfl
  | 58, _ => rfl
  | 59, _ => rfl
  | 60, _ => rfl
  | 61, _ => rfl
  | 62, _ => rfl
  | 63, _ => rfl
  | n + 64, h => absurd h (by omega)
theorem sh_kRest {i : Nat} (h : i < 64) : m2_sh (kRest i) = some (.inl (2, 6, [])) := m2_allRest i h
theorem ar_kept_all : ∀ j, j < 4 → ([107, 112, 117, 122] : List Nat)[j]? = some (kK j) := by decide +kernel
theorem ar_levels_all : ∀ j, j < 6 → ([127, 132, 137, 142, 147, 152] : List Nat)[j]? = some (kK (j + 4)) := by decide +kernel
theorem ar_far_all : ∀ j, j < 6 → ([157, 158, 159, 160, 161, 162] : List Nat)[j]? = some (kFar j) := by decide +kernel
theorem ar_rest_all : ∀ j, j < 64 → ([163, 164, 165, 166, 167, 168, 169, 170, 171, 172, 173, 174, 175, 176, 177, 178, 179, 180, 181, 182, 183, 184, 185, 186, 187, 188, 189, 190, 191, 192, 193, 194, 195, 196, 197, 198, 199, 200, 201, 202, 203, 204, 205, 206, 207, 208, 209, 210, 211, 212, 213, 214, 215, 216, 217, 218, 219, 220, 221, 222, 223, 224, 225, 226] : List Nat)[j]? = some (kRest j) := by decide +kernel
theorem ar_kept {i : Int32} {j : Nat} (e : i = nI j) (h : j < 4) : vp_in i 4 ∧ ([107, 112, 117, 122] : List Nat)[i.toNatClampNeg]? = some (kK j) := by
  subst e
  rw [nI_clamp (by omega)]
  exact ⟨vp_in_nI h (by decide), ar_kept_all j h⟩
theorem ar_levels {i : Int32} {j : Nat} (e : i = nI (j - 4)) (h : 4 ≤ j ∧ j < 10) : vp_in i 6 ∧ ([127, 132, 137, 142, 147, 152] : List Nat)[i.toNatClampNeg]? = some (kK j) := by
  subst e
  rw [nI_clamp (by omega)]
  refine ⟨vp_in_nI (by omega) (by decide), ?_⟩
  have h2 := ar_levels_all (j - 4) (by omega)
  rw [show j - 4 + 4 = j by omega] at h2
  exact h2
theorem ar_far {i : Int32} {j : Nat} (e : i = nI j) (h : j < 6) : vp_in i 6 ∧ ([157, 158, 159, 160, 161, 162] : List Nat)[i.toNatClampNeg]? = some (kFar j) := by
  subst e
  rw [nI_clamp (by omega)]
  exact ⟨vp_in_nI h (by decide), ar_far_all j h⟩
theorem ar_rest {i : Int32} {j : Nat} (e : i = nI j) (h : j < 64) : vp_in i 64 ∧ ([163, 164, 165, 166, 167, 168, 169, 170, 171, 172, 173, 174, 175, 176, 177, 178, 179, 180, 181, 182, 183, 184, 185, 186, 187, 188, 189, 190, 191, 192, 193, 194, 195, 196, 197, 198, 199, 200, 201, 202, 203, 204, 205, 206, 207, 208, 209, 210, 211, 212, 213, 214, 215, 216, 217, 218, 219, 220, 221, 222, 223, 224, 225, 226] : List Nat)[i.toNatClampNeg]? = some (kRest j) := by
  subst e
  rw [nI_clamp (by omega)]
  exact ⟨vp_in_nI h (by decide), ar_rest_all j h⟩
theorem m2_MT.mono {d : Nat} {y : MethodName} {cc : ByteArray} {nL : Nat} {ret : Option FieldType} {as : List Value} {μ : m2M} {Q Q' : Option Value → m2M → Prop} (h : m2_MT d y cc nL ret as μ Q) (hq : ∀ r μ', Q r μ' → Q' r μ') : m2_MT d y cc nL ret as μ Q' := by
  intro l D dA ad sz hj
  exact MetFree.mono (h l D dA ad sz hj) (fun _ _ q => q) (fun _ _ _ _ _ q => q) (fun a st o t _ q => ⟨m2_Qc_mono hq q.1, q.2⟩)
theorem m2_b01 {v : Int32} (h : v = 0 ∨ v = 1) : v = if v = 1 then 1 else 0 := by
  rcases h with rfl | rfl <;> rfl
def m2_le : List Value → List Value → Prop
  | [], [] => True
  | a :: r, b :: t => (a = .null ∨ a = b) ∧ m2_le r t
  | [], _ :: _ => False
  | _ :: _, [] => False
theorem m2_le_at : ∀ {l l' : List Value}, m2_le l l' → l.length = l'.length ∧ ∀ (i : Nat) (v : Value), l[i]? = some v → v ≠ .null → l'[i]? = some v
  | [], [], _ => ⟨rfl, fun i v h => by simp at h⟩
  | a :: r, b :: t, h => by
    obtain ⟨h1, h2⟩ := h
    obtain ⟨h3, h4⟩ := m2_le_at h2
    refine ⟨by simp [h3], fun i v hi hv => ?_⟩
    match i, hi with
    | 0, hi =>
      cases hi
      rcases h1 with h1 | h1
      · exact absurd h1 hv
      · rw [h1]; rfl
    | i + 1, hi => exact h4 i v hi hv
/-- less is said of the locals -/
theorem m2_weak {κ : Nat → List Value → List Value → m2M → Prop} {cc : ByteArray} {own : String} {nL d pc : Nat} {ls ls' st : List Value} {μ : m2M} (h : m2_B κ cc own nL d) (hle : m2_le ls' ls) (k : κ pc ls' st μ) : κ pc ls st μ := by
  obtain ⟨p, l, e, R, s, m, args, below, meth, c, D, dA, ad, cells, slots, Z, ⟨hx, hb, hml, ho, hw, hK, hj, hk, hfr, hlo, hce, hsl⟩, rfl⟩ := h
  intro H locs la hP hS hl
  obtain ⟨h1, h2⟩ := m2_le_at hle
  exact k H locs la hP hS ⟨h1.trans hl.1, hl.2.1, hl.2.2.1, fun i v hi hv => hl.2.2.2 i v (h2 i v hi hv) hv⟩
def m2_min (x y : Int32) : Int32 := if y < x then y else x
def m2_max (x y : Int32) : Int32 := if x < y then y else x
def m2_abs (x : Int32) : Int32 := if 0 ≤ x then x else 0 - x
def m2_minl (x y : Int64) : Int64 := if y < x then y else x
def m2_maxl (x y : Int64) : Int64 := if y < x then x else y
theorem m2_mmin {κ : Nat → List Value → List Value → m2M → Prop} {cc : ByteArray} {own : String} {nL d pc : Nat} {ls st : List Value} {μ : m2M} (h : m2_B κ cc own nL (d + 1)) {idx : Nat} {x y : Int32} (hd : decode cc pc = .ok (.invokestatic idx, 3)) (hL : m2_LS own idx yJ9_min_7cf53 cJ9_min_7cf53 2 (some .int) 2) (hcat : (st.map fun v => v.category).sum ≤ 8) (k : κ (pc + 3) ls (.int (m2_min x y) :: st) μ) : κ pc ls (.int y :: .int x :: st) μ := by
  obtain ⟨p, l, e, R, s, m, args, below, meth, c, D, dA, ad, cells, slots, Z, ⟨hx, hb, hml, ho, hw, hK, hj, hk, hfr, hlo, hce, hsl⟩, rfl⟩ := h
  intro H locs la hP hS hl
  have e1 : yJ9_min_7cf53 = Lib.Math.min.name := by decide +kernel
  have e2 : cJ9_min_7cf53 = Lib.Math.min.code := by decide +kernel
  rw [e1, e2] at hL
  have ok : ∀ w ∈ va_wsS own idx Lib.Math.min.name (.code Lib.Math.min.name Lib.Math.min.code 2 (some .int) :: m2_WS), w.before args s = true := fun w hw0 => hw w (hL.1 w hw0).1
  have hc := m2_cat ad st
  exact va_mmin hx hb (hml.trans hl.2.1.symm) ho (ok _ (by simp [va_wsS])) (ok _ (by simp [va_wsS])) (ok _ (List.mem_cons_of_mem _ (List.mem_cons_of_mem _ List.mem_cons_self))) (ok _ (by simp [va_wsS])) (by omega) (by omega) hce hsl hd (k H locs la hP hS hl)
theorem m2_mmax {κ : Nat → List Value → List Value → m2M → Prop} {cc : ByteArray} {own : String} {nL d pc : Nat} {ls st : List Value} {μ : m2M} (h : m2_B κ cc own nL (d + 1)) {idx : Nat} {x y : Int32} (hd : decode cc pc = .ok (.invokestatic idx, 3)) (hL : m2_LS own idx yJ9_max_7cf53 cJ9_max_7cf53 2 (some .int) 2) (hcat : (st.map fun v => v.category).sum ≤ 8) (k : κ (pc + 3) ls (.int (m2_max x y) :: st) μ) : κ pc ls (.int y :: .int x :: st) μ := by
  obtain ⟨p, l, e, R, s, m, args, below, meth, c, D, dA, ad, cells, slots, Z, ⟨hx, hb, hml, ho, hw, hK, hj, hk, hfr, hlo, hce, hsl⟩, rfl⟩ := h
  intro H locs la hP hS hl
  have e1 : yJ9_max_7cf53 = Lib.Math.max.name := by decide +kernel
  have e2 : cJ9_max_7cf53 = Lib.Math.max.code := by decide +kernel
  rw [e1, e2] at hL
  have ok : ∀ w ∈ va_wsS own idx Lib.Math.max.name (.code Lib.Math.max.name Lib.Math.max.code 2 (some .int) :: m2_WS), w.before args s = true := fun w hw0 => hw w (hL.1 w hw0).1
  have hc := m2_cat ad st
  exact va_mmax hx hb (hml.trans hl.2.1.symm) ho (ok _ (by simp [va_wsS])) (ok _ (by simp [va_wsS])) (ok _ (List.mem_cons_of_mem _ (List.mem_cons_of_mem _ List.mem_cons_self))) (ok _ (by simp [va_wsS])) (by omega) (by omega) hce hsl hd (k H locs la hP hS hl)
theorem m2_mabs {κ : Nat → List Value → List Value → m2M → Prop} {cc : ByteArray} {own : String} {nL d pc : Nat} {ls st : List Value} {μ : m2M} (h : m2_B κ cc own nL (d + 1)) {idx : Nat} {x : Int32} (hd : decode cc pc = .ok (.invokestatic idx, 3)) (hL : m2_LS own idx yJ9_abs_0f7a4 cJ9_abs_0f7a4 1 (some .int) 1) (hcat : (st.map fun v => v.category).sum ≤ 8) (k : κ (pc + 3) ls (.int (m2_abs x) :: st) μ) : κ pc ls (.int x :: st) μ := by
  obtain ⟨p, l, e, R, s, m, args, below, meth, c, D, dA, ad, cells, slots, Z, ⟨hx, hb, hml, ho, hw, hK, hj, hk, hfr, hlo, hce, hsl⟩, rfl⟩ := h
  intro H locs la hP hS hl
  have e1 : yJ9_abs_0f7a4 = Lib.Math.abs.name := by decide +kernel
  have e2 : cJ9_abs_0f7a4 = Lib.Math.abs.code := by decide +kernel
  rw [e1, e2] at hL
  have ok : ∀ w ∈ va_wsS own idx Lib.Math.abs.name (.code Lib.Math.abs.name Lib.Math.abs.code 1 (some .int) :: m2_WS), w.before args s = true := fun w hw0 => hw w (hL.1 w hw0).1
  have hc := m2_cat ad st
  exact va_mabs hx hb (hml.trans hl.2.1.symm) ho (ok _ (by simp [va_wsS])) (ok _ (by simp [va_wsS])) (ok _ (List.mem_cons_of_mem _ (List.mem_cons_of_mem _ List.mem_cons_self))) (ok _ (by simp [va_wsS])) (by omega) (by omega) hce hsl hd (k H locs la hP hS hl)
theorem m2_mmin_long {κ : Nat → List Value → List Value → m2M → Prop} {cc : ByteArray} {own : String} {nL d pc : Nat} {ls st : List Value} {μ : m2M} (h : m2_B κ cc own nL (d + 1)) {idx : Nat} {x y : Int64} (hd : decode cc pc = .ok (.invokestatic idx, 3)) (hL : m2_LS own idx yJ9_min_f86c9 cJ9_min_f86c9 4 (some .long) 2) (hcat : (st.map fun v => v.category).sum ≤ 8) (k : κ (pc + 3) ls (.long (m2_minl x y) :: st) μ) : κ pc ls (.long y :: .long x :: st) μ := by
  obtain ⟨p, l, e, R, s, m, args, below, meth, c, D, dA, ad, cells, slots, Z, ⟨hx, hb, hml, ho, hw, hK, hj, hk, hfr, hlo, hce, hsl⟩, rfl⟩ := h
  intro H locs la hP hS hl
  have e1 : yJ9_min_f86c9 = Lib.MathLoose.min_long.x := by decide +kernel
  have e2 : cJ9_min_f86c9 = Lib.MathLoose.min_long.code := by decide +kernel
  rw [e1, e2] at hL
  have ok : ∀ w ∈ va_wsS own idx Lib.MathLoose.min_long.x (.code Lib.MathLoose.min_long.x Lib.MathLoose.min_long.code 4 (some .long) :: m2_WS), w.before args s = true := fun w hw0 => hw w (hL.1 w hw0).1
  have hc := m2_cat ad st
  exact va_mmin_long hx hb (hml.trans hl.2.1.symm) ho (ok _ (by simp [va_wsS])) (ok _ (by simp [va_wsS])) (ok _ (List.mem_cons_of_mem _ (List.mem_cons_of_mem _ List.mem_cons_self))) (ok _ (by simp [va_wsS])) (by omega) (by omega) hce hsl hd (k H locs la hP hS hl)
theorem m2_mmax_long {κ : Nat → List Value → List Value → m2M → Prop} {cc : ByteArray} {own : String} {nL d pc : Nat} {ls st : List Value} {μ : m2M} (h : m2_B κ cc own nL (d + 1)) {idx : Nat} {x y : Int64} (hd : decode cc pc = .ok (.invokestatic idx, 3)) (hL : m2_LS own idx yJ9_max_f86c9 cJ9_max_f86c9 4 (some .long) 2) (hcat : (st.map fun v => v.category).sum ≤ 8) (k : κ (pc + 3) ls (.long (m2_maxl x y) :: st) μ) : κ pc ls (.long y :: .long x :: st) μ := by
  obtain ⟨p, l, e, R, s, m, args, below, meth, c, D, dA, ad, cells, slots, Z, ⟨hx, hb, hml, ho, hw, hK, hj, hk, hfr, hlo, hce, hsl⟩, rfl⟩ := h
  intro H locs la hP hS hl
  have e1 : yJ9_max_f86c9 = Lib.MathLoose.max_long.x := by decide +kernel
  have e2 : cJ9_max_f86c9 = Lib.MathLoose.max_long.code := by decide +kernel
  rw [e1, e2] at hL
  have ok : ∀ w ∈ va_wsS own idx Lib.MathLoose.max_long.x (.code Lib.MathLoose.max_long.x Lib.MathLoose.max_long.code 4 (some .long) :: m2_WS), w.before args s = true := fun w hw0 => hw w (hL.1 w hw0).1
  have hc := m2_cat ad st
  exact va_mmax_long hx hb (hml.trans hl.2.1.symm) ho (ok _ (by simp [va_wsS])) (ok _ (by simp [va_wsS])) (ok _ (List.mem_cons_of_mem _ (List.mem_cons_of_mem _ List.mem_cons_self))) (ok _ (by simp [va_wsS])) (by omega) (by omega) hce hsl hd (k H locs la hP hS hl)
