/-! tour, send: the reference -/
abbrev tB := Option (Nat × List Nat)
def mrg (b c : tB) : tB := match c with
  | none => b
  | some q => match b with
    | none => some q
    | some q0 => if q.1 < q0.1 then some q else some q0
theorem mrg_assoc (a b c : tB) : mrg (mrg a b) c = mrg a (mrg b c) := by
  cases c with
  | none => rfl
  | some q =>
    cases b with
    | none => rfl
    | some q1 =>
      cases a with
      | none =>
        simp only [mrg]
        split <;> rfl
      | some q0 =>
        simp only [mrg]
        by_cases h1 : q1.1 < q0.1
        · rw [if_pos h1]
          by_cases h2 : q.1 < q1.1
          · simp only [if_pos h2]
            rw [if_pos (by omega)]
          · simp only [if_neg h2]
            rw [if_pos h1]
        · rw [if_neg h1]
          by_cases h2 : q.1 < q1.1
          · simp only [if_pos h2]
          · simp only [if_neg h2]
            rw [if_neg h1, if_neg (by omega)]
def shf (s : Nat) (P : List Nat) (c : tB) : tB := c.map (fun q => (s + q.1, P ++ q.2))
theorem shf_mrg (s : Nat) (P : List Nat) (a b : tB) : shf s P (mrg a b) = mrg (shf s P a) (shf s P b) := by
  cases b with
  | none => rfl
  | some q =>
    cases a with
    | none => rfl
    | some q0 =>
      show shf s P (if q.1 < q0.1 then some q else some q0) = (if s + q.1 < s + q0.1 then some (s + q.1, P ++ q.2) else some (s + q0.1, P ++ q0.2))
      by_cases h : q.1 < q0.1
      · rw [if_pos h, if_pos (by omega)]; rfl
      · rw [if_neg h, if_neg (by omega)]; rfl
def rmB (S : Nat → Bool) (r : Nat) : Nat → Bool := fun j => S j && !decide (j = r)
def tvL (c : Nat → tB) : Nat → tB
  | 0 => none
  | r + 1 => mrg (tvL c r) (c r)
def tvS (d : Nat → Nat → Option Nat) : Nat → (Nat → Bool) → Nat → tB
  | 0, _, _ => some (0, [])
  | k + 1, S, room => tvL (fun r => if S r = true then (match d room r with
    | none => none
    | some x => shf x [r] (tvS d k (rmB S r) r)) else none) 12
theorem mrg_c (b c : tB) (s : Nat) (h : ∃ q0, b = some q0 ∧ q0.1 ≤ s) (hc : ∀ q, c = some q → s ≤ q.1) : mrg b c = b := by
  obtain ⟨q0, rfl, h0⟩ := h
  cases c with
  | none => rfl
  | some q =>
    have := hc q rfl
    exact if_neg (by omega)
theorem shf_ge {s : Nat} {P : List Nat} {c : tB} {q : Nat × List Nat} (h : shf s P c = some q) : s ≤ q.1 := by
  cases c with
  | none => cases h
  | some q0 =>
    have : q = (s + q0.1, P ++ q0.2) := by cases h; rfl
    rw [this]
    exact Nat.le_add_right _ _
theorem mrg_f {a b : tB} {q : Nat × List Nat} (h : mrg a b = some q) : a = some q ∨ b = some q := by
  cases b with
  | none => exact Or.inl h
  | some q1 =>
    cases a with
    | none => exact Or.inr h
    | some q0 =>
      have h : (if q1.1 < q0.1 then some q1 else some q0) = some q := h
      by_cases z : q1.1 < q0.1
      · rw [if_pos z] at h; exact Or.inr h
      · rw [if_neg z] at h; exact Or.inl h
theorem tvL_f {c : Nat → tB} {q : Nat × List Nat} : ∀ {r : Nat}, tvL c r = some q → ∃ i, i < r ∧ c i = some q
  | 0, h => by cases h
  | r + 1, h => by
    rcases mrg_f h with z | z
    · obtain ⟨i, h1, h2⟩ := tvL_f z
      exact ⟨i, by omega, h2⟩
    · exact ⟨r, by omega, z⟩
/-- a tour's length, its ROOMS -/
theorem tvS_ok {d : Nat → Nat → Option Nat} (hd : ∀ a b x, d a b = some x → x ≤ 11) : ∀ {k : Nat} {S : Nat → Bool} {room : Nat} {q : Nat × List Nat}, tvS d k S room = some q → q.1 ≤ 11 * k ∧ q.2.length = k ∧ ∀ r, r ∈ q.2 → r < 12
  | 0, _, _, q, h => by
    have h : some (0, []) = some q := h
    cases h
    exact ⟨Nat.le_refl 0, rfl, fun r hr => absurd hr (by simp)⟩
  | k + 1, S, room, q, h => by
    obtain ⟨r, hr, e⟩ := tvL_f h
    by_cases z : S r = true
    · rw [if_pos z] at e
      rcases ed : d room r with _ | x
      · rw [ed] at e; cases e
      · rw [ed] at e
        rcases et : tvS d k (rmB S r) r with _ | q1
        · rw [et] at e; cases e
        · rw [et] at e
          have e : some (x + q1.1, [r] ++ q1.2) = some q := e
          cases e
          obtain ⟨i1, i2, i3⟩ := tvS_ok hd et
          have := hd room r x ed
          refine ⟨by show x + q1.1 ≤ _; omega, by simp [i2], fun r' hr' => ?_⟩
          rcases List.mem_cons.mp hr' with rfl | w
          · exact hr
          · exact i3 r' w
    · rw [if_neg z] at e; cases e
theorem bts_rm {S : Nat → Bool} {r : Nat} (hr : r < 12) : bts S 12 &&& (((1 : Int32) <<< (nI r &&& 31)) ^^^ (-1 : Int32)) = bts (rmB S r) 12 := by
  refine bv_ext (fun j hj => ?_)
  rw [bts_one (n := 12) (by decide) hr, Int32.toBitVec_and, Int32.toBitVec_xor, BitVec.getLsbD_and, BitVec.getLsbD_xor, bts_get _ _ (by decide), bts_get _ _ (by decide), bts_get _ _ (by decide)]
  have e1 : (-1 : Int32).toBitVec.getLsbD j = true := by
    have : ∀ j, j < 32 → (-1 : Int32).toBitVec.getLsbD j = true := by decide
    exact this j hj
  rw [e1]
  unfold rmB
  by_cases z : j < 12
  · simp [z]
  · simp [z]
theorem bts_z {S : Nat → Bool} : bts S 12 = 0 ↔ ∀ i, i < 12 → S i = false := by
  have e0 : (0 : Int32) = bts (fun _ => false) 12 := by decide
  rw [e0]
  exact ⟨fun h i hi => bts_inj (by decide) h i hi, fun h => bts_congr h⟩
theorem cnb_rm {S : Nat → Bool} {r : Nat} (h : S r = true) (hr : r < 12) : cnb S 12 = cnb (rmB S r) 12 + 1 := by
  have e : cnb S 12 = cnb (adB (rmB S r) r) 12 := cnb_congr (fun i _ => by
    unfold adB rmB
    by_cases z : i = r
    · rw [z, h]; simp
    · rw [decide_eq_false z]; simp)
  rw [e, cnb_ad (by unfold rmB; simp), if_pos hr]
theorem cnb_z {S : Nat → Bool} : ∀ {n : Nat}, cnb S n = 0 → ∀ i, i < n → S i = false
  | 0, _, i, hi => absurd hi (Nat.not_lt_zero i)
  | n + 1, h, i, hi => by
    unfold cnb at h
    by_cases e : i = n
    · subst e
      cases c : S i with
      | false => rfl
      | true => rw [c] at h; simp at h
    · exact cnb_z (n := n) (by omega) i (by omega)
def dO (ν : m2M) (n : Nat) (a b : Nat) : Option Nat := (wyU ν n (hO ν) a b).map List.length
def stB (b : tB) (M : m2M) : Prop := match b with
  | none => M.1 kM 52 = -1
  | some q => M.1 kM 52 = nI q.1 ∧ q.1 ≤ 66 ∧ ∀ i r, q.2[i]? = some r → M.1 kM_bestTour i = nI r
def frZ (μ μ' : m2M) : Prop := ag μ μ' ∧ frM μ μ'
theorem frZ.rf {μ : m2M} : frZ μ μ := ⟨ag.rf, fr.rf⟩
theorem frZ.tr {μ ν ρ : m2M} (h1 : frZ μ ν) (h2 : frZ ν ρ) : frZ μ ρ := ⟨h1.1.tr h2.1, h1.2.tr h2.2⟩
theorem frZ.si {μ μ' : m2M} {c j : Nat} {x : Int32} (h : frZ μ μ') (h1 : scr c j = true) (h2 : isM c = true) : frZ μ (m2_si μ' c j x) := ⟨h.1.tr (ag_si h1), fr_si h2 h.2⟩
theorem jM.t {μ μ' : m2M} (h : jM μ μ') : frZ μ μ' := ⟨h.1, h.2.m⟩
theorem jM.stB {b : tB} {μ μ' : m2M} (h : jM μ μ') (q : stB b μ) : stB b μ' := by
  have e1 : μ'.1 kM 52 = μ.1 kM 52 := h.2.2 52 rfl
  have e2 : μ'.1 kM_bestTour = μ.1 kM_bestTour := (h.2.1 kM_bestTour rfl).1
  cases b with
  | none => exact e1.trans q
  | some q0 =>
    obtain ⟨a1, a2, a3⟩ := q
    exact ⟨e1.trans a1, a2, fun i r hr => by rw [e2]; exact a3 i r hr⟩
