/-! THE RELATION between the class's cells (of mu) and the reference's (of nu); what is scratch -/
def in_ (k : Nat) (x : Int32) : Prop := ∃ a : Nat, a < k ∧ x = nI a
def b01 (x : Int32) : Prop := x = 0 ∨ x = 1
/-- THE PRICE's text turned: signs behind what they join (mode 0 held, 1 sum, 2 product, 3 thing, 4 rest of a sum, 5 rest of a product); right or not, the place, the row -/
def cp_hT (top : Nat) (g : Nat → Int32) (k a : Nat) : Int32 := if a < k ∧ a < top then g a else -1
abbrev cp_h (g : Nat → Int32) (k a : Nat) : Int32 := cp_hT 40 g k a
def cp_dg (c : Int32) : Bool := decide (48 ≤ c ∧ c ≤ 57)
/-- a number of so many digits: its value, the place behind it -/
def cp_nH (hf : Nat → Int32) : Nat → Nat → Int32 → Int32 × Nat
  | 0, a, v => (v, a)
  | j + 1, a, v => if cp_dg (hf a) = true then cp_nH hf j (a + 1) (10 * v + hf a - 48) else (v, a)
abbrev cp_n (g : Nat → Int32) (k : Nat) : Nat → Nat → Int32 → Int32 × Nat := cp_nH (cp_h g k)
def cp_nm (c : Int32) : Int32 := if c = 108 then -1 else if c = 109 then -2 else if c = 111 then -3 else if c = 104 then -4 else if c = 119 then -5 else if c = 107 then -6 else 0
def cp (g : Nat → Int32) (k : Nat) : Nat → Nat → Nat → Nat → Bool × Nat × List Int32
  | 0, _, _, a => (false, a, [])
  | f + 1, 0, e, a =>
    let r := cp g k f 1 e a
    if r.1 = true then
      (if cp_h g k r.2.1 = 60 ∨ cp_h g k r.2.1 = 62 ∨ cp_h g k r.2.1 = 61 then
        (let r2 := cp g k f 1 e (r.2.1 + 1)
        (r2.1, r2.2.1, r.2.2 ++ r2.2.2 ++ [- cp_h g k r.2.1]))
      else r)
    else r
  | f + 1, 1, e, a =>
    let r := cp g k f 2 e a
    if r.1 = true then
      (let r2 := cp g k f 4 e r.2.1
      (r2.1, r2.2.1, r.2.2 ++ r2.2.2))
    else r
  | f + 1, 2, e, a =>
    let r := cp g k f 3 e a
    if r.1 = true then
      (let r2 := cp g k f 5 e r.2.1
      (r2.1, r2.2.1, r.2.2 ++ r2.2.2))
    else r
  | f + 1, 3, e, a =>
    if cp_h g k a = 45 then
      (let r := cp g k f 3 e (a + 1)
      (r.1, r.2.1, r.2.2 ++ [-256]))
    else if cp_h g k a = 40 ∧ e < 4 then
      (let r := cp g k f 0 (e + 1) (a + 1)
      if r.1 = true then (if cp_h g k r.2.1 = 41 then (true, r.2.1 + 1, r.2.2) else (false, r.2.1, r.2.2)) else r)
    else if cp_dg (cp_h g k a) = true then (true, (cp_n g k 3 a 0).2, [(cp_n g k 3 a 0).1])
    else if cp_nm (cp_h g k a) = 0 then (false, a, [])
    else (true, a + 1, [cp_nm (cp_h g k a)])
  | f + 1, 4, e, a =>
    if cp_h g k a = 43 ∨ cp_h g k a = 45 then
      (let r := cp g k f 2 e (a + 1)
      if r.1 = true then
        (let r2 := cp g k f 4 e r.2.1
        (r2.1, r2.2.1, r.2.2 ++ (- cp_h g k a) :: r2.2.2))
      else r)
    else (true, a, [])
  | f + 1, _, e, a =>
    if cp_h g k a = 42 then
      (let r := cp g k f 3 e (a + 1)
      if r.1 = true then
        (let r2 := cp g k f 5 e r.2.1
        (r2.1, r2.2.1, r.2.2 ++ (- 42) :: r2.2.2))
      else r)
    else (true, a, [])
/-- DOORS -/
def r_D (ν μ : m2M) (n : Nat) : Prop := μ.1 kD 6 = nI n ∧ ν.1 kM 0 = nI n ∧ n ≤ 20 ∧ ∀ d, d < n → (μ.1 kD_a d = ν.1 kM_doorA d ∧ μ.1 kD_b d = ν.1 kM_doorB d ∧ μ.1 kD_oneWay d = ν.1 kM_isOneWay d ∧ μ.1 kD_lets d = ν.1 kM_lets d ∧ μ.1 kD_left d = ν.1 kM_left d ∧ μ.1 kD_noon d = ν.1 kM_atNoon d) ∧ in_ 12 (ν.1 kM_doorA d) ∧ in_ 12 (ν.1 kM_doorB d) ∧ ν.1 kM_doorA d ≠ ν.1 kM_doorB d ∧ b01 (ν.1 kM_isOneWay d) ∧ in_ 61 (ν.1 kM_lets d) ∧ in_ 61 (ν.1 kM_left d) ∧ (ν.1 kM_atNoon d = -1 ∨ in_ 61 (ν.1 kM_atNoon d))
/-- PEOPLE -/
def r_P (ν μ : m2M) (p : Nat) : Prop := μ.1 kP 8 = nI p ∧ ν.1 kM 7 = nI p ∧ p ≤ 8 ∧ ∀ q, q < p → (μ.1 kP_where q = ν.1 kM_where q ∧ μ.1 kP_first q = ν.1 kM_home q ∧ μ.1 kP_stranger q = ν.1 kM_isStranger q ∧ μ.1 kP_worth q = ν.1 kM_worth q ∧ μ.1 kP_errand q = ν.1 kM_errand q ∧ μ.1 kP_back q = ν.1 kM_comesBack q ∧ μ.1 kP_reached q = ν.1 kM_wasThere q ∧ μ.1 kP_done q = ν.1 kM_isDone q) ∧ in_ 12 (ν.1 kM_where q) ∧ in_ 12 (ν.1 kM_home q) ∧ b01 (ν.1 kM_isStranger q) ∧ in_ 100 (ν.1 kM_worth q) ∧ (ν.1 kM_errand q = -1 ∨ in_ 12 (ν.1 kM_errand q)) ∧ b01 (ν.1 kM_comesBack q) ∧ b01 (ν.1 kM_wasThere q) ∧ b01 (ν.1 kM_isDone q) ∧ (ν.1 kM_errand q = -1 → ν.1 kM_wasThere q = 0 ∧ ν.1 kM_isDone q = 0)
/-- THE TEXT -/
def r_T (ν μ : m2M) : Prop := ∃ t : Nat, t ≤ 80 ∧ μ.1 kC 1 = nI t ∧ ν.1 kM 19 = nI t ∧ ∀ i, i < 80 → ∃ b : Nat, b < 256 ∧ μ.1 kC_text i = nI b ∧ ν.1 kM_text i = (nI b).toInt8.toInt32
/-- the ROW -/
def r_R (ν μ : m2M) : Prop := ∃ r : Nat, r ≤ 16 ∧ μ.1 kC 3 = nI r ∧ ν.1 kM 21 = nI r ∧ ∀ i, i < r → μ.2 kC_row i = ν.2 kM_row i
/-- sayings -/
def r_S (ν μ : m2M) (n : Nat) : Prop := ∃ s : Nat, s ≤ 20 ∧ μ.1 kC 7 = nI s ∧ ν.1 kM 64 = nI s ∧ ∀ i, i < s → μ.1 kC_sayingMaid i = ν.1 kM_saysWho i ∧ μ.1 kC_sayingDoor i = ν.1 kM_saysDoor i ∧ μ.1 kC_sayingNumber i = ν.1 kM_saysNumber i ∧ in_ 4 (ν.1 kM_saysWho i) ∧ in_ n (ν.1 kM_saysDoor i) ∧ in_ 61 (ν.1 kM_saysNumber i)
/-- what is kept -/
def r_K (ν μ : m2M) (n p : Nat) : Prop := ∀ i, i < 3 → μ.1 (kK i) 7 = ν.1 kM_isKept i ∧ b01 (ν.1 kM_isKept i) ∧ (ν.1 kM_isKept i = 1 → ∃ kn kp : Nat, (kn ≤ n ∧ kn ≤ 20) ∧ (kp ≤ p ∧ kp ≤ 8) ∧ μ.1 (kK i) 4 = nI kn ∧ ν.1 kM_keptDoors i = nI kn ∧ μ.1 (kK i) 5 = nI kp ∧ ν.1 kM_keptPeople i = nI kp ∧ μ.1 (kK i) 6 = ν.1 kM_put (45 * i + 44) ∧ in_ 24 (ν.1 kM_put (45 * i + 44)) ∧ (∀ d, d < kn → μ.1 (kK i + 1) d = ν.1 kM_put (45 * i + d) ∧ in_ 61 (ν.1 kM_put (45 * i + d))) ∧ ∀ q, q < kp → μ.1 (kK i + 2) q = ν.1 kM_put (45 * i + 20 + 3 * q) ∧ in_ 12 (ν.1 kM_put (45 * i + 20 + 3 * q)) ∧ μ.1 (kK i + 3) q = ν.1 kM_put (45 * i + 20 + 3 * q + 1) ∧ b01 (ν.1 kM_put (45 * i + 20 + 3 * q + 1)) ∧ μ.1 (kK i + 4) q = ν.1 kM_put (45 * i + 20 + 3 * q + 2) ∧ b01 (ν.1 kM_put (45 * i + 20 + 3 * q + 2)) ∧ (ν.1 kM_errand q = -1 → ν.1 kM_put (45 * i + 20 + 3 * q + 1) = 0 ∧ ν.1 kM_put (45 * i + 20 + 3 * q + 2) = 0))
/-- the HOUR, KEEP -/
def r_H (ν μ : m2M) : Prop := μ.1 kD 7 = ν.1 kM 16 ∧ in_ 24 (ν.1 kM 16)
def r_V (ν μ : m2M) : Prop := μ.1 kW 6 = ν.1 kM 17 ∧ in_ 60 (ν.1 kM 17)
/-- THE PRICE -/
def r_X0 (ν μ : m2M) : Prop := ∃ (k : Nat) (l : List Int32), k ≤ 40 ∧ ν.1 kM 29 = nI k ∧ ((k = 0 ∧ l = []) ∨ (0 < k ∧ l ≠ [] ∧ cp (ν.1 kM_price) k 400 0 0 0 = (true, k, l))) ∧ l.length ≤ 40 ∧ μ.1 kE 2 = nI l.length ∧ (∀ i c, l[i]? = some c → μ.1 kE_code i = c) ∧ μ.1 kE 3 = (if (-6) ∈ l then 1 else 0)
/-- what is DONE is known at once -/
def ivP (e w t o b h : Int32) : Prop := e ≠ -1 → (w = e → t = 1) ∧ (t = 1 → (b = 0 ∨ w = h) → o = 1)
def r_I (ν : m2M) : Prop := (∀ p q : Nat, ν.1 kM 7 = nI p → p ≤ 8 → q < p → ivP (ν.1 kM_errand q) (ν.1 kM_where q) (ν.1 kM_wasThere q) (ν.1 kM_isDone q) (ν.1 kM_comesBack q) (ν.1 kM_home q)) ∧ ∀ i kp q : Nat, i < 3 → ν.1 kM_isKept i = 1 → ν.1 kM_keptPeople i = nI kp → kp ≤ 8 → q < kp → ivP (ν.1 kM_errand q) (ν.1 kM_put (45 * i + 20 + 3 * q)) (ν.1 kM_put (45 * i + 20 + 3 * q + 1)) (ν.1 kM_put (45 * i + 20 + 3 * q + 2)) (ν.1 kM_comesBack q) (ν.1 kM_home q)
def r_X (ν μ : m2M) : Prop := r_X0 ν μ ∧ r_I ν
def REL2 (ν μ : m2M) : Prop := ∃ n p : Nat, r_D ν μ n ∧ r_P ν μ p ∧ r_T ν μ ∧ r_R ν μ ∧ r_S ν μ n ∧ r_K ν μ n p ∧ r_H ν μ ∧ r_V ν μ ∧ r_X ν μ
def REL (μ : m2M) : Prop := REL2 μ μ
/-- scratch: what no later call looks at -/
def scr (c j : Nat) : Bool := (c == 6) || (c == 24) || (Nat.ble 27 c && Nat.ble c 45) || (Nat.ble 47 c && Nat.ble c 64) || Nat.ble 122 c || (c == kM_onTheirWay) || (c == kM_isOnWay) || (c == kM_cost) || (c == kM_far) || (c == kM_way) || (c == kM_can) || (c == kM_cameFrom) || (c == kM_queue) || (c == kM_line) || (c == kM_bestLine) || (c == kM_tour) || (c == kM_bestTour) || (c == kM_firstWay) || (c == kM_secondWay) || (c == kM_bestTwo) || (c == kM_wasLeft) || (c == kM_hope) || (c == kM_put && Nat.ble 135 j) || (c == kW && (j == 7 || j == 8)) || (c == kE && !(j == 2 || j == 3)) || (c == kM && !(j == 0 || j == 7 || j == 16 || j == 17 || j == 19 || j == 21 || j == 29 || j == 64))
def isM (c : Nat) : Bool := Nat.ble 65 c && Nat.ble c 106
/-- the class's cells, the reference's: the same but for scratch -/
def agC (μ μ' : m2M) : Prop := (∀ c j, isM c = false → scr c j = false → μ'.1 c j = μ.1 c j) ∧ ∀ j, μ'.2 kC_row j = μ.2 kC_row j
def vM (ν μ : m2M) : Prop := (∀ c j, isM c = true → scr c j = false → μ.1 c j = ν.1 c j) ∧ ∀ r j : Nat, ν.1 kM 21 = nI r → r ≤ 16 → j < r → μ.2 kM_row j = ν.2 kM_row j
theorem agC.rf {μ : m2M} : agC μ μ := ⟨fun _ _ _ _ => rfl, fun _ => rfl⟩
theorem agC.tr {μ ν ρ : m2M} (h1 : agC μ ν) (h2 : agC ν ρ) : agC μ ρ := ⟨fun c j h h' => (h2.1 c j h h').trans (h1.1 c j h h'), fun j => (h2.2 j).trans (h1.2 j)⟩
theorem vM.rf {μ : m2M} : vM μ μ := ⟨fun _ _ _ _ => rfl, fun _ _ _ _ _ => rfl⟩
theorem vM.tr {μ ν ρ : m2M} (h1 : vM μ ν) (h2 : vM ν ρ) : vM μ ρ := ⟨fun c j h h' => (h2.1 c j h h').trans (h1.1 c j h h'), fun r j a b c => (h2.2 r j ((h1.1 kM 21 rfl rfl).trans a) b c).trans (h1.2 r j a b c)⟩
/-- only cells of S have changed -/
def fr (S : Nat → Bool) (μ μ' : m2M) : Prop := ∀ c, S c = false → μ'.1 c = μ.1 c ∧ μ'.2 c = μ.2 c
theorem fr.rf {S : Nat → Bool} {μ : m2M} : fr S μ μ := fun _ _ => ⟨rfl, rfl⟩
theorem fr.tr {S : Nat → Bool} {μ ν ρ : m2M} (h1 : fr S μ ν) (h2 : fr S ν ρ) : fr S μ ρ := fun c h => ⟨(h2 c h).1.trans (h1 c h).1, (h2 c h).2.trans (h1 c h).2⟩
theorem fr.mo {S S' : Nat → Bool} {μ ν : m2M} (h : fr S μ ν) (hs : ∀ c, S' c = false → S c = false) : fr S' μ ν := fun c q => h c (hs c q)
theorem fr_sr {S : Nat → Bool} {μ μ' : m2M} {c : Nat} {f : Nat → Int32} (h : S c = true) (q : fr S μ μ') : fr S μ (m2_sr μ' c f) := by
  intro c' hc
  have : c' ≠ c := fun e => by rw [e, h] at hc; cases hc
  exact ⟨by rw [m2_sr_ne μ' f this]; exact (q c' hc).1, (q c' hc).2⟩
theorem fr_si {S : Nat → Bool} {μ μ' : m2M} {c j : Nat} {x : Int32} (h : S c = true) (q : fr S μ μ') : fr S μ (m2_si μ' c j x) := fr_sr h q
theorem fr_sl {S : Nat → Bool} {μ μ' : m2M} {c : Nat} {f : Nat → Int64} (h : S c = true) (q : fr S μ μ') : fr S μ (m2_sl μ' c f) := by
  intro c' hc
  have : c' ≠ c := fun e => by rw [e, h] at hc; cases hc
  exact ⟨(q c' hc).1, by rw [m2_sl_ne μ' f this]; exact (q c' hc).2⟩
/-- only the class's cells, only the reference's -/
def frC (μ μ' : m2M) : Prop := fr (fun c => !isM c) μ μ'
def frM (μ μ' : m2M) : Prop := fr isM μ μ'
theorem frC.v {μ μ' ν : m2M} (h : frC μ μ') (q : vM ν μ) : vM ν μ' := ⟨fun c j h1 h2 => by rw [(h c (show (!isM c) = false by rw [h1]; rfl)).1]; exact q.1 c j h1 h2, fun r j a b c => by rw [(h kM_row rfl).2]; exact q.2 r j a b c⟩
theorem frM.a {μ μ' : m2M} (h : frM μ μ') : agC μ μ' := ⟨fun c j h1 _ => by rw [(h c h1).1], fun j => by rw [(h kC_row rfl).2]⟩
/-- the same but for scratch -/
def ag (μ μ' : m2M) : Prop := (∀ c j, scr c j = false → μ'.1 c j = μ.1 c j) ∧ (∀ j, μ'.2 kC_row j = μ.2 kC_row j) ∧ ∀ j, μ'.2 kM_row j = μ.2 kM_row j
theorem ag.rf {μ : m2M} : ag μ μ := ⟨fun _ _ _ => rfl, fun _ => rfl, fun _ => rfl⟩
theorem ag.tr {μ ν ρ : m2M} (h1 : ag μ ν) (h2 : ag ν ρ) : ag μ ρ := ⟨fun c j h => (h2.1 c j h).trans (h1.1 c j h), fun j => (h2.2.1 j).trans (h1.2.1 j), fun j => (h2.2.2 j).trans (h1.2.2 j)⟩
theorem ag_sr {μ : m2M} {c : Nat} {f : Nat → Int32} (h : ∀ j, scr c j = true) : ag μ (m2_sr μ c f) := by
  refine ⟨fun c' j hq => ?_, fun _ => rfl, fun _ => rfl⟩
  by_cases e : c' = c
  · subst e
    rw [h j] at hq
    cases hq
  · rw [m2_sr_ne μ f e]
theorem ag_si {μ : m2M} {c j : Nat} {x : Int32} (h : scr c j = true) : ag μ (m2_si μ c j x) := by
  refine ⟨fun c' j' hq => ?_, fun _ => rfl, fun _ => rfl⟩
  unfold m2_si
  by_cases e : c' = c
  · subst e
    rw [m2_sr_same]
    unfold upd
    by_cases e2 : j' = j
    · subst e2
      rw [h] at hq
      cases hq
    · rw [if_neg e2]
  · rw [m2_sr_ne μ _ e]
theorem ag_sl {μ : m2M} {c : Nat} {f : Nat → Int64} (h1 : c ≠ kC_row) (h2 : c ≠ kM_row) : ag μ (m2_sl μ c f) := ⟨fun _ _ _ => rfl, fun j => by rw [m2_sl_ne μ f (Ne.symm h1)], fun j => by rw [m2_sl_ne μ f (Ne.symm h2)]⟩
theorem ag.c {μ ν : m2M} (h : ag μ ν) : agC μ ν := ⟨fun c j _ q => h.1 c j q, h.2.1⟩
theorem ag.m {μ ν : m2M} (h : ag μ ν) : vM μ ν := ⟨fun c j _ q => h.1 c j q, fun _ j _ _ _ => h.2.2 j⟩
theorem z_D {ν μ ν2 μ2 : m2M} {n : Nat} (h : agC μ μ2) (g : vM ν ν2) (q : r_D ν μ n) : r_D ν2 μ2 n := by
  obtain ⟨h1, h2, h3, h4⟩ := q
  refine ⟨(h.1 kD 6 rfl rfl).trans h1, (g.1 kM 0 rfl rfl).trans h2, h3, fun d hd => ?_⟩
  rw [h.1 kD_a d rfl rfl, g.1 kM_doorA d rfl rfl, h.1 kD_b d rfl rfl, g.1 kM_doorB d rfl rfl, h.1 kD_oneWay d rfl rfl, g.1 kM_isOneWay d rfl rfl, h.1 kD_lets d rfl rfl, g.1 kM_lets d rfl rfl, h.1 kD_left d rfl rfl, g.1 kM_left d rfl rfl, h.1 kD_noon d rfl rfl, g.1 kM_atNoon d rfl rfl]
  exact h4 d hd
theorem z_P {ν μ ν2 μ2 : m2M} {p : Nat} (h : agC μ μ2) (g : vM ν ν2) (q : r_P ν μ p) : r_P ν2 μ2 p := by
  obtain ⟨h1, h2, h3, h4⟩ := q
  refine ⟨(h.1 kP 8 rfl rfl).trans h1, (g.1 kM 7 rfl rfl).trans h2, h3, fun d hd => ?_⟩
  rw [h.1 kP_where d rfl rfl, g.1 kM_where d rfl rfl, h.1 kP_first d rfl rfl, g.1 kM_home d rfl rfl, h.1 kP_stranger d rfl rfl, g.1 kM_isStranger d rfl rfl, h.1 kP_worth d rfl rfl, g.1 kM_worth d rfl rfl, h.1 kP_errand d rfl rfl, g.1 kM_errand d rfl rfl, h.1 kP_back d rfl rfl, g.1 kM_comesBack d rfl rfl, h.1 kP_reached d rfl rfl, g.1 kM_wasThere d rfl rfl, h.1 kP_done d rfl rfl, g.1 kM_isDone d rfl rfl]
  exact h4 d hd
theorem z_T {ν μ ν2 μ2 : m2M} (h : agC μ μ2) (g : vM ν ν2) (q : r_T ν μ) : r_T ν2 μ2 := by
  obtain ⟨t, h1, h2, h3, h4⟩ := q
  refine ⟨t, h1, (h.1 kC 1 rfl rfl).trans h2, (g.1 kM 19 rfl rfl).trans h3, fun i hi => ?_⟩
  rw [h.1 kC_text i rfl rfl, g.1 kM_text i rfl rfl]
  exact h4 i hi
theorem z_R {ν μ ν2 μ2 : m2M} (h : agC μ μ2) (g : vM ν ν2) (q : r_R ν μ) : r_R ν2 μ2 := by
  obtain ⟨r, h1, h2, h3, h4⟩ := q
  refine ⟨r, h1, (h.1 kC 3 rfl rfl).trans h2, (g.1 kM 21 rfl rfl).trans h3, fun i hi => ?_⟩
  rw [h.2 i, g.2 r i h3 h1 hi]
  exact h4 i hi
theorem z_S {ν μ ν2 μ2 : m2M} {n : Nat} (h : agC μ μ2) (g : vM ν ν2) (q : r_S ν μ n) : r_S ν2 μ2 n := by
  obtain ⟨s, h1, h2, h3, h4⟩ := q
  refine ⟨s, h1, (h.1 kC 7 rfl rfl).trans h2, (g.1 kM 64 rfl rfl).trans h3, fun i hi => ?_⟩
  rw [h.1 kC_sayingMaid i rfl rfl, g.1 kM_saysWho i rfl rfl, h.1 kC_sayingDoor i rfl rfl, g.1 kM_saysDoor i rfl rfl, h.1 kC_sayingNumber i rfl rfl, g.1 kM_saysNumber i rfl rfl]
  exact h4 i hi
theorem scr_K {i k : Nat} (hi : i < 3) (hk : k < 5) (j : Nat) : scr (kK i + k) j = false := by
  rcases (show i = 0 ∨ i = 1 ∨ i = 2 by omega) with rfl | rfl | rfl <;> rcases (show k = 0 ∨ k = 1 ∨ k = 2 ∨ k = 3 ∨ k = 4 by omega) with rfl | rfl | rfl | rfl | rfl <;> rfl
theorem isM_K {i k : Nat} (hi : i < 3) (hk : k < 5) : isM (kK i + k) = false := by
  rcases (show i = 0 ∨ i = 1 ∨ i = 2 by omega) with rfl | rfl | rfl <;> rcases (show k = 0 ∨ k = 1 ∨ k = 2 ∨ k = 3 ∨ k = 4 by omega) with rfl | rfl | rfl | rfl | rfl <;> rfl
theorem scr_put {j : Nat} (h : j < 135) : scr kM_put j = false := by
  have : Nat.ble 135 j = false := by
    cases e : Nat.ble 135 j with
    | false => rfl
    | true => have := Nat.le_of_ble_eq_true e; omega
  unfold scr
  rw [this]
  rfl
theorem z_K {ν μ ν2 μ2 : m2M} {n p : Nat} (h : agC μ μ2) (g : vM ν ν2) (q : r_K ν μ n p) : r_K ν2 μ2 n p := by
  intro i hi
  have e0 : ∀ j, μ2.1 (kK i) j = μ.1 (kK i) j := fun j => h.1 _ j (isM_K (k := 0) hi (by decide)) (scr_K (k := 0) hi (by decide) j)
  have e1 : ∀ j, μ2.1 (kK i + 1) j = μ.1 (kK i + 1) j := fun j => h.1 _ j (isM_K hi (by decide)) (scr_K hi (by decide) j)
  have e2 : ∀ j, μ2.1 (kK i + 2) j = μ.1 (kK i + 2) j := fun j => h.1 _ j (isM_K hi (by decide)) (scr_K hi (by decide) j)
  have e3 : ∀ j, μ2.1 (kK i + 3) j = μ.1 (kK i + 3) j := fun j => h.1 _ j (isM_K hi (by decide)) (scr_K hi (by decide) j)
  have e4 : ∀ j, μ2.1 (kK i + 4) j = μ.1 (kK i + 4) j := fun j => h.1 _ j (isM_K hi (by decide)) (scr_K hi (by decide) j)
  have ep : ∀ j, j < 135 → ν2.1 kM_put j = ν.1 kM_put j := fun j hj => g.1 _ j rfl (scr_put hj)
  obtain ⟨h1, h2, h3⟩ := q i hi
  rw [e0, g.1 kM_isKept i rfl rfl]
  refine ⟨h1, h2, fun hk => ?_⟩
  obtain ⟨kn, kp, a1, a2, a3, a4, a5, a6, a7, a8, a9, a10⟩ := h3 hk
  refine ⟨kn, kp, a1, a2, (e0 4).trans a3, (g.1 kM_keptDoors i rfl rfl).trans a4, (e0 5).trans a5, (g.1 kM_keptPeople i rfl rfl).trans a6, ?_, ?_, fun d hd => ?_, fun w hw => ?_⟩
  · rw [e0, ep _ (by omega)]; exact a7
  · rw [ep _ (by omega)]; exact a8
  · rw [e1, ep _ (by omega)]
    exact a9 d hd
  · rw [e2, e3, e4, ep _ (by omega), ep _ (by omega), ep _ (by omega), g.1 kM_errand w rfl rfl]
    exact a10 w hw
theorem z_H {ν μ ν2 μ2 : m2M} (h : agC μ μ2) (g : vM ν ν2) (q : r_H ν μ) : r_H ν2 μ2 := by
  unfold r_H
  rw [h.1 kD 7 rfl rfl, g.1 kM 16 rfl rfl]
  exact q
theorem z_V {ν μ ν2 μ2 : m2M} (h : agC μ μ2) (g : vM ν ν2) (q : r_V ν μ) : r_V ν2 μ2 := by
  unfold r_V
  rw [h.1 kW 6 rfl rfl, g.1 kM 17 rfl rfl]
  exact q
theorem z_X {ν μ ν2 μ2 : m2M} (h : agC μ μ2) (g : vM ν ν2) (q : r_X ν μ) : r_X ν2 μ2 := by
  obtain ⟨⟨k, l, h1, h2, h3, h4, h5, h6, h7⟩, h8, h9⟩ := q
  have e : ν2.1 kM_price = ν.1 kM_price := funext fun j => g.1 kM_price j rfl rfl
  refine ⟨?_, fun p q e1 hp hq => ?_, fun i kp q hi e1 e2 hp hq => ?_⟩
  rotate_left
  · rw [g.1 kM_errand q rfl rfl, g.1 kM_where q rfl rfl, g.1 kM_wasThere q rfl rfl, g.1 kM_isDone q rfl rfl, g.1 kM_comesBack q rfl rfl, g.1 kM_home q rfl rfl]
    exact h8 p q ((g.1 kM 7 rfl rfl).symm.trans e1) hp hq
  · rw [g.1 kM_errand q rfl rfl, g.1 kM_put _ rfl (scr_put (by omega)), g.1 kM_put _ rfl (scr_put (by omega)), g.1 kM_put _ rfl (scr_put (by omega)), g.1 kM_comesBack q rfl rfl, g.1 kM_home q rfl rfl]
    exact h9 i kp q hi ((g.1 kM_isKept i rfl rfl).symm.trans e1) ((g.1 kM_keptPeople i rfl rfl).symm.trans e2) hp hq
  refine ⟨k, l, h1, (g.1 kM 29 rfl rfl).trans h2, by rw [e]; exact h3, h4, (h.1 kE 2 rfl rfl).trans h5, fun i c q => (h.1 kE_code i rfl rfl).trans (h6 i c q), (h.1 kE 3 rfl rfl).trans h7⟩
theorem REL2.z {ν μ ν2 μ2 : m2M} (q : REL2 ν μ) (h : agC μ μ2) (g : vM ν ν2) : REL2 ν2 μ2 := by
  obtain ⟨n, p, h1, h2, h3, h4, h5, h6, h7, h8, h9⟩ := q
  exact ⟨n, p, z_D h g h1, z_P h g h2, z_T h g h3, z_R h g h4, z_S h g h5, z_K h g h6, z_H h g h7, z_V h g h8, z_X h g h9⟩
theorem REL.ag {μ ν : m2M} (q : REL μ) (h : ag μ ν) : REL ν := REL2.z q h.c h.m
