/-! THE RELATION between the class's cells and the reference's; what is scratch -/
def in_ (k : Nat) (x : Int32) : Prop := ∃ a : Nat, a < k ∧ x = nI a
def b01 (x : Int32) : Prop := x = 0 ∨ x = 1
/-- DOORS -/
def r_D (μ : m2M) (n : Nat) : Prop := μ.1 kD 6 = nI n ∧ μ.1 kM 0 = nI n ∧ n ≤ 20 ∧ ∀ d, d < n → (μ.1 kD_a d = μ.1 kM_doorA d ∧ μ.1 kD_b d = μ.1 kM_doorB d ∧ μ.1 kD_oneWay d = μ.1 kM_isOneWay d ∧ μ.1 kD_lets d = μ.1 kM_lets d ∧ μ.1 kD_left d = μ.1 kM_left d ∧ μ.1 kD_noon d = μ.1 kM_atNoon d) ∧ in_ 12 (μ.1 kM_doorA d) ∧ in_ 12 (μ.1 kM_doorB d) ∧ μ.1 kM_doorA d ≠ μ.1 kM_doorB d ∧ b01 (μ.1 kM_isOneWay d) ∧ in_ 61 (μ.1 kM_lets d) ∧ in_ 61 (μ.1 kM_left d) ∧ (μ.1 kM_atNoon d = -1 ∨ in_ 61 (μ.1 kM_atNoon d))
/-- PEOPLE -/
def r_P (μ : m2M) (p : Nat) : Prop := μ.1 kP 8 = nI p ∧ μ.1 kM 7 = nI p ∧ p ≤ 8 ∧ ∀ q, q < p → (μ.1 kP_where q = μ.1 kM_where q ∧ μ.1 kP_first q = μ.1 kM_home q ∧ μ.1 kP_stranger q = μ.1 kM_isStranger q ∧ μ.1 kP_worth q = μ.1 kM_worth q ∧ μ.1 kP_errand q = μ.1 kM_errand q ∧ μ.1 kP_back q = μ.1 kM_comesBack q ∧ μ.1 kP_reached q = μ.1 kM_wasThere q ∧ μ.1 kP_done q = μ.1 kM_isDone q) ∧ in_ 12 (μ.1 kM_where q) ∧ in_ 12 (μ.1 kM_home q) ∧ b01 (μ.1 kM_isStranger q) ∧ in_ 100 (μ.1 kM_worth q) ∧ (μ.1 kM_errand q = -1 ∨ in_ 12 (μ.1 kM_errand q)) ∧ b01 (μ.1 kM_comesBack q) ∧ b01 (μ.1 kM_wasThere q) ∧ b01 (μ.1 kM_isDone q) ∧ (μ.1 kM_errand q = -1 → μ.1 kM_wasThere q = 0 ∧ μ.1 kM_isDone q = 0)
/-- THE TEXT -/
def r_T (μ : m2M) : Prop := ∃ t : Nat, t ≤ 80 ∧ μ.1 kC 1 = nI t ∧ μ.1 kM 19 = nI t ∧ ∀ i, i < 80 → ∃ b : Nat, b < 256 ∧ μ.1 kC_text i = nI b ∧ μ.1 kM_text i = (nI b).toInt8.toInt32
/-- the ROW -/
def r_R (μ : m2M) : Prop := ∃ r : Nat, r ≤ 16 ∧ μ.1 kC 3 = nI r ∧ μ.1 kM 21 = nI r ∧ ∀ i, i < r → μ.2 kC_row i = μ.2 kM_row i
/-- sayings -/
def r_S (μ : m2M) (n : Nat) : Prop := ∃ s : Nat, s ≤ 20 ∧ μ.1 kC 7 = nI s ∧ μ.1 kM 64 = nI s ∧ ∀ i, i < s → μ.1 kC_sayingMaid i = μ.1 kM_saysWho i ∧ μ.1 kC_sayingDoor i = μ.1 kM_saysDoor i ∧ μ.1 kC_sayingNumber i = μ.1 kM_saysNumber i ∧ in_ 4 (μ.1 kM_saysWho i) ∧ in_ n (μ.1 kM_saysDoor i) ∧ in_ 61 (μ.1 kM_saysNumber i)
/-- what is kept -/
def r_K (μ : m2M) (n p : Nat) : Prop := ∀ i, i < 3 → μ.1 (kK i) 7 = μ.1 kM_isKept i ∧ b01 (μ.1 kM_isKept i) ∧ (μ.1 kM_isKept i = 1 → ∃ kn kp : Nat, (kn ≤ n ∧ kn ≤ 20) ∧ (kp ≤ p ∧ kp ≤ 8) ∧ μ.1 (kK i) 4 = nI kn ∧ μ.1 kM_keptDoors i = nI kn ∧ μ.1 (kK i) 5 = nI kp ∧ μ.1 kM_keptPeople i = nI kp ∧ μ.1 (kK i) 6 = μ.1 kM_put (45 * i + 44) ∧ in_ 24 (μ.1 kM_put (45 * i + 44)) ∧ (∀ d, d < kn → μ.1 (kK i + 1) d = μ.1 kM_put (45 * i + d) ∧ in_ 61 (μ.1 kM_put (45 * i + d))) ∧ ∀ q, q < kp → μ.1 (kK i + 2) q = μ.1 kM_put (45 * i + 20 + 3 * q) ∧ in_ 12 (μ.1 kM_put (45 * i + 20 + 3 * q)) ∧ μ.1 (kK i + 3) q = μ.1 kM_put (45 * i + 20 + 3 * q + 1) ∧ b01 (μ.1 kM_put (45 * i + 20 + 3 * q + 1)) ∧ μ.1 (kK i + 4) q = μ.1 kM_put (45 * i + 20 + 3 * q + 2) ∧ b01 (μ.1 kM_put (45 * i + 20 + 3 * q + 2)) ∧ (μ.1 kM_errand q = -1 → μ.1 kM_put (45 * i + 20 + 3 * q + 1) = 0 ∧ μ.1 kM_put (45 * i + 20 + 3 * q + 2) = 0))
/-- the HOUR, KEEP -/
def r_H (μ : m2M) : Prop := μ.1 kD 7 = μ.1 kM 16 ∧ in_ 24 (μ.1 kM 16)
def r_V (μ : m2M) : Prop := μ.1 kW 6 = μ.1 kM 17 ∧ in_ 60 (μ.1 kM 17)
def REL (μ : m2M) : Prop := ∃ n p : Nat, r_D μ n ∧ r_P μ p ∧ r_T μ ∧ r_R μ ∧ r_S μ n ∧ r_K μ n p ∧ r_H μ ∧ r_V μ
/-- scratch: what no later call looks at -/
def scr (c j : Nat) : Bool := (c == 6) || (c == 24) || (Nat.ble 27 c && Nat.ble c 45) || (Nat.ble 47 c && Nat.ble c 64) || Nat.ble 122 c || (c == kM_onTheirWay) || (c == kM_isOnWay) || (c == kM_cost) || (c == kM_far) || (c == kM_way) || (c == kM_can) || (c == kM_cameFrom) || (c == kM_queue) || (c == kM_line) || (c == kM_bestLine) || (c == kM_tour) || (c == kM_bestTour) || (c == kM_firstWay) || (c == kM_secondWay) || (c == kM_bestTwo) || (c == kM_wasLeft) || (c == kM_hope) || (c == kM_put && Nat.ble 135 j) || (c == kW && (j == 7 || j == 8)) || (c == kE && !(j == 2 || j == 3)) || (c == kM && !(j == 0 || j == 7 || j == 16 || j == 17 || j == 19 || j == 21 || j == 29 || j == 64))
/-- the same but for scratch -/
def ag (μ μ' : m2M) : Prop := (∀ c j, scr c j = false → μ'.1 c j = μ.1 c j) ∧ (∀ j, μ'.2 kC_row j = μ.2 kC_row j) ∧ ∀ j, μ'.2 kM_row j = μ.2 kM_row j
theorem ag.rf {μ : m2M} : ag μ μ := ⟨fun _ _ _ => rfl, fun _ => rfl, fun _ => rfl⟩
theorem ag.tr {μ ν ρ : m2M} (h1 : ag μ ν) (h2 : ag ν ρ) : ag μ ρ := ⟨fun c j h => (h2.1 c j h).trans (h1.1 c j h), fun j => (h2.2.1 j).trans (h1.2.1 j), fun j => (h2.2.2 j).trans (h1.2.2 j)⟩
theorem ag_sr {μ : m2M} {c : Nat} {f : Nat → Int32} (h : ∀ j, scr c j = true) : ag μ (m2_sr μ c f) := by
  refine ⟨fun c' j hq => ?_, fun _ => rfl, fun _ => rfl⟩
  by_cases e : c' = c
  · subst e
    rw [h j] at hq
    cases hq
  · rw [m2_sr_ne μ f e]
theorem ag_si {μ : m2M} {c j : Nat} {x : Int32} (h : scr c j = true) : ag μ (m2_si μ c j x) := by
  refine ⟨fun c' j' hq => ?_, fun _ => rfl, fun _ => rfl⟩
  unfold m2_si
  by_cases e : c' = c
  · subst e
    rw [m2_sr_same]
    unfold upd
    by_cases e2 : j' = j
    · subst e2
      rw [h] at hq
      cases hq
    · rw [if_neg e2]
  · rw [m2_sr_ne μ _ e]
theorem ag_sl {μ : m2M} {c : Nat} {f : Nat → Int64} (h1 : c ≠ kC_row) (h2 : c ≠ kM_row) : ag μ (m2_sl μ c f) := ⟨fun _ _ _ => rfl, fun j => by rw [m2_sl_ne μ f (Ne.symm h1)], fun j => by rw [m2_sl_ne μ f (Ne.symm h2)]⟩
theorem ag.D {μ ν : m2M} {n : Nat} (h : ag μ ν) (q : r_D μ n) : r_D ν n := by
  obtain ⟨h1, h2, h3, h4⟩ := q
  refine ⟨(h.1 kD 6 rfl).trans h1, (h.1 kM 0 rfl).trans h2, h3, fun d hd => ?_⟩
  rw [h.1 kD_a d rfl, h.1 kM_doorA d rfl, h.1 kD_b d rfl, h.1 kM_doorB d rfl, h.1 kD_oneWay d rfl, h.1 kM_isOneWay d rfl, h.1 kD_lets d rfl, h.1 kM_lets d rfl, h.1 kD_left d rfl, h.1 kM_left d rfl, h.1 kD_noon d rfl, h.1 kM_atNoon d rfl]
  exact h4 d hd
theorem ag.P {μ ν : m2M} {p : Nat} (h : ag μ ν) (q : r_P μ p) : r_P ν p := by
  obtain ⟨h1, h2, h3, h4⟩ := q
  refine ⟨(h.1 kP 8 rfl).trans h1, (h.1 kM 7 rfl).trans h2, h3, fun d hd => ?_⟩
  rw [h.1 kP_where d rfl, h.1 kM_where d rfl, h.1 kP_first d rfl, h.1 kM_home d rfl, h.1 kP_stranger d rfl, h.1 kM_isStranger d rfl, h.1 kP_worth d rfl, h.1 kM_worth d rfl, h.1 kP_errand d rfl, h.1 kM_errand d rfl, h.1 kP_back d rfl, h.1 kM_comesBack d rfl, h.1 kP_reached d rfl, h.1 kM_wasThere d rfl, h.1 kP_done d rfl, h.1 kM_isDone d rfl]
  exact h4 d hd
theorem ag.T {μ ν : m2M} (h : ag μ ν) (q : r_T μ) : r_T ν := by
  obtain ⟨t, h1, h2, h3, h4⟩ := q
  refine ⟨t, h1, (h.1 kC 1 rfl).trans h2, (h.1 kM 19 rfl).trans h3, fun i hi => ?_⟩
  rw [h.1 kC_text i rfl, h.1 kM_text i rfl]
  exact h4 i hi
theorem ag.R {μ ν : m2M} (h : ag μ ν) (q : r_R μ) : r_R ν := by
  obtain ⟨r, h1, h2, h3, h4⟩ := q
  refine ⟨r, h1, (h.1 kC 3 rfl).trans h2, (h.1 kM 21 rfl).trans h3, fun i hi => ?_⟩
  rw [h.2.1 i, h.2.2 i]
  exact h4 i hi
theorem ag.S {μ ν : m2M} {n : Nat} (h : ag μ ν) (q : r_S μ n) : r_S ν n := by
  obtain ⟨s, h1, h2, h3, h4⟩ := q
  refine ⟨s, h1, (h.1 kC 7 rfl).trans h2, (h.1 kM 64 rfl).trans h3, fun i hi => ?_⟩
  rw [h.1 kC_sayingMaid i rfl, h.1 kM_saysWho i rfl, h.1 kC_sayingDoor i rfl, h.1 kM_saysDoor i rfl, h.1 kC_sayingNumber i rfl, h.1 kM_saysNumber i rfl]
  exact h4 i hi
theorem scr_K {i k : Nat} (hi : i < 3) (hk : k < 5) (j : Nat) : scr (kK i + k) j = false := by
  rcases (show i = 0 ∨ i = 1 ∨ i = 2 by omega) with rfl | rfl | rfl <;> rcases (show k = 0 ∨ k = 1 ∨ k = 2 ∨ k = 3 ∨ k = 4 by omega) with rfl | rfl | rfl | rfl | rfl <;> rfl
theorem scr_put {j : Nat} (h : j < 135) : scr kM_put j = false := by
  have : Nat.ble 135 j = false := by
    cases e : Nat.ble 135 j with
    | false => rfl
    | true => have := Nat.le_of_ble_eq_true e; omega
  unfold scr
  rw [this]
  rfl
theorem ag.K {μ ν : m2M} {n p : Nat} (h : ag μ ν) (q : r_K μ n p) : r_K ν n p := by
  intro i hi
  have e0 : ∀ j, ν.1 (kK i) j = μ.1 (kK i) j := fun j => h.1 _ j (scr_K (k := 0) hi (by decide) j)
  have e1 : ∀ j, ν.1 (kK i + 1) j = μ.1 (kK i + 1) j := fun j => h.1 _ j (scr_K hi (by decide) j)
  have e2 : ∀ j, ν.1 (kK i + 2) j = μ.1 (kK i + 2) j := fun j => h.1 _ j (scr_K hi (by decide) j)
  have e3 : ∀ j, ν.1 (kK i + 3) j = μ.1 (kK i + 3) j := fun j => h.1 _ j (scr_K hi (by decide) j)
  have e4 : ∀ j, ν.1 (kK i + 4) j = μ.1 (kK i + 4) j := fun j => h.1 _ j (scr_K hi (by decide) j)
  have ep : ∀ j, j < 135 → ν.1 kM_put j = μ.1 kM_put j := fun j hj => h.1 _ j (scr_put hj)
  obtain ⟨h1, h2, h3⟩ := q i hi
  rw [e0, h.1 kM_isKept i rfl]
  refine ⟨h1, h2, fun hk => ?_⟩
  obtain ⟨kn, kp, a1, a2, a3, a4, a5, a6, a7, a8, a9, a10⟩ := h3 hk
  refine ⟨kn, kp, a1, a2, (e0 4).trans a3, (h.1 kM_keptDoors i rfl).trans a4, (e0 5).trans a5, (h.1 kM_keptPeople i rfl).trans a6, ?_, ?_, fun d hd => ?_, fun w hw => ?_⟩
  · rw [e0, ep _ (by omega)]; exact a7
  · rw [ep _ (by omega)]; exact a8
  · rw [e1, ep _ (by omega)]
    exact a9 d hd
  · rw [e2, e3, e4, ep _ (by omega), ep _ (by omega), ep _ (by omega), h.1 kM_errand w rfl]
    exact a10 w hw
theorem ag.H {μ ν : m2M} (h : ag μ ν) (q : r_H μ) : r_H ν := by
  unfold r_H
  rw [h.1 kD 7 rfl, h.1 kM 16 rfl]
  exact q
theorem ag.V {μ ν : m2M} (h : ag μ ν) (q : r_V μ) : r_V ν := by
  unfold r_V
  rw [h.1 kW 6 rfl, h.1 kM 17 rfl]
  exact q
theorem REL.ag {μ ν : m2M} (q : REL μ) (h : ag μ ν) : REL ν := by
  obtain ⟨n, p, h1, h2, h3, h4, h5, h6, h7, h8⟩ := q
  exact ⟨n, p, h.D h1, h.P h2, h.T h3, h.R h4, h.S h5, h.K h6, h.H h7, h.V h8⟩
