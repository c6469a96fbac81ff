/-! Tours.nextOf, arrange -/
theorem mrg_min {a b : tB} {q : Nat × List Nat} (h : mrg a b = some q) : (∀ x, a = some x → q.1 ≤ x.1) ∧ ∀ x, b = some x → q.1 ≤ x.1 := by
  cases b with
  | none =>
    have h : a = some q := h
    rw [h]
    exact ⟨fun x e => by cases e; exact Nat.le_refl _, fun x e => by cases e⟩
  | some q1 =>
    cases a with
    | none =>
      have h : some q1 = some q := h
      cases h
      exact ⟨fun x e => (by cases e), fun x e => (by cases e; exact Nat.le_refl _)⟩
    | some q0 =>
      have h : (if q1.1 < q0.1 then some q1 else some q0) = some q := h
      by_cases z : q1.1 < q0.1
      · rw [if_pos z] at h
        cases h
        exact ⟨fun x e => by cases e; omega, fun x e => by cases e; exact Nat.le_refl _⟩
      · rw [if_neg z] at h
        cases h
        exact ⟨fun x e => by cases e; exact Nat.le_refl _, fun x e => by cases e; omega⟩
theorem tvL_min {c : Nat → tB} : ∀ {N : Nat} {j : Nat} {x : Nat × List Nat}, j < N → c j = some x → ∃ q, tvL c N = some q ∧ q.1 ≤ x.1
  | 0, j, _, h, _ => absurd h (Nat.not_lt_zero j)
  | N + 1, j, x, h, e => by
    have some_r : ∀ (a b : tB), (∃ q, a = some q) ∨ (∃ q, b = some q) → ∃ q, mrg a b = some q := by
      intro a b hh
      cases b with
      | none =>
        rcases hh with w | w
        · exact w
        · obtain ⟨q, w⟩ := w; cases w
      | some q1 =>
        cases a with
        | none => exact ⟨q1, rfl⟩
        | some q0 =>
          show ∃ q, (if q1.1 < q0.1 then some q1 else some q0) = some q
          split
          · exact ⟨_, rfl⟩
          · exact ⟨_, rfl⟩
    by_cases z : j = N
    · subst z
      obtain ⟨q, hq⟩ := some_r (tvL c j) (c j) (Or.inr ⟨x, e⟩)
      exact ⟨q, hq, (mrg_min hq).2 x e⟩
    · obtain ⟨q0, h0, l0⟩ := tvL_min (N := N) (by omega) e
      obtain ⟨q, hq⟩ := some_r (tvL c N) (c N) (Or.inl ⟨q0, h0⟩)
      exact ⟨q, hq, Nat.le_trans ((mrg_min hq).1 q0 h0) l0⟩
theorem tvL_first {c : Nat → tB} : ∀ {N : Nat} {q : Nat × List Nat}, tvL c N = some q → ∃ i, i < N ∧ c i = some q ∧ ∀ j x, j < i → c j = some x → q.1 < x.1
  | 0, q, h => by cases h
  | N + 1, q, h => by
    have h : mrg (tvL c N) (c N) = some q := h
    rcases ec : c N with _ | q1
    · rw [ec] at h
      obtain ⟨i, a1, a2, a3⟩ := tvL_first (N := N) (show tvL c N = some q from h)
      exact ⟨i, by omega, a2, a3⟩
    · rw [ec] at h
      rcases et : tvL c N with _ | q0
      · rw [et] at h
        have h : some q1 = some q := h
        cases h
        refine ⟨N, by omega, ec, fun j x hj e => ?_⟩
        obtain ⟨q', w, _⟩ := tvL_min hj e
        rw [et] at w
        cases w
      · rw [et] at h
        have h : (if q1.1 < q0.1 then some q1 else some q0) = some q := h
        by_cases z : q1.1 < q0.1
        · rw [if_pos z] at h
          cases h
          refine ⟨N, by omega, ec, fun j x hj e => ?_⟩
          obtain ⟨q', w, l⟩ := tvL_min hj e
          rw [et] at w
          cases w
          omega
        · rw [if_neg z] at h
          cases h
          obtain ⟨i, a1, a2, a3⟩ := tvL_first (N := N) et
          exact ⟨i, by omega, a2, a3⟩
section NX
variable {ν : m2M} {n p : Nat} {g : Nat → Bool}
/-- the first ROOM of the best tour -/
theorem tv_next {μ0 : m2M} (h : RLn ν μ0 n p) {v room : Nat} {q : Nat × List Nat} (hv : v < 64) (hm : cnb g 12 ≤ 6) (hroom : room < 12) (hne : ∃ i, i < cnb g 12 ∧ v.testBit i = true) (e : tvT ν n (svB g v) room = some q) : ∃ i q', i < cnb g 12 ∧ v.testBit i = true ∧ dF ν n room (rmN g i) + fvN ν n g (v - 2 ^ i) (rmN g i) = q.1 ∧ tvT ν n (svB g (v - 2 ^ i)) (rmN g i) = some q' ∧ q.2 = rmN g i :: q'.2 ∧ ∀ j, j < i → v.testBit j = true → dF ν n room (rmN g j) + fvN ν n g (v - 2 ^ j) (rmN g j) ≠ q.1 := by
  have hq := (tvS_le h hroom e).1
  have hk := cnb_le (svB g v) 12
  have val : ∀ i, i < cnb g 12 → v.testBit i = true → (∃ x q', dO ν n room (rmN g i) = some x ∧ tvT ν n (svB g (v - 2 ^ i)) (rmN g i) = some q' ∧ dF ν n room (rmN g i) + fvN ν n g (v - 2 ^ i) (rmN g i) = x + q'.1) ∨ 268435456 ≤ dF ν n room (rmN g i) + fvN ν n g (v - 2 ^ i) (rmN g i) := by
    intro i hi hb
    obtain ⟨a1, a2, a3⟩ := rmF_ok (g := g) hi
    have ed := dF_eq h hroom (show rmN g i < 12 from a2)
    rcases e1 : dO ν n room (rmN g i) with _ | x
    · rw [e1] at ed
      have ed : dF ν n room (rmN g i) = 268435456 := ed
      right
      omega
    · rw [e1] at ed
      have ed : dF ν n room (rmN g i) = x := ed
      have hf : fvN ν n g (v - 2 ^ i) (rmN g i) = vlB (tvT ν n (svB g (v - 2 ^ i)) (rmN g i)) := rfl
      rcases e2 : tvT ν n (svB g (v - 2 ^ i)) (rmN g i) with _ | q'
      · rw [e2] at hf
        have hf : fvN ν n g (v - 2 ^ i) (rmN g i) = 268435456 := hf
        right
        omega
      · rw [e2] at hf
        have hf : fvN ν n g (v - 2 ^ i) (rmN g i) = q'.1 := hf
        exact Or.inl ⟨x, q', rfl, rfl, by omega⟩
  have eT := (ffL_eq h hv hm hroom hne).2
  rw [eT] at e
  obtain ⟨i, b1, b2, b3⟩ := tvL_first e
  have hb : v.testBit i = true := by
    apply Classical.byContradiction
    intro w
    rw [if_neg w] at b2
    cases b2
  rw [if_pos hb] at b2
  rcases val i b1 hb with ⟨x, q', c1, c2, c3⟩ | c
  · rw [c1, c2] at b2
    have b2 : some (x + q'.1, [rmN g i] ++ q'.2) = some q := b2
    cases b2
    refine ⟨i, q', b1, hb, c3, c2, rfl, fun j hj hbj => ?_⟩
    rcases val j (by omega) hbj with ⟨y, q2, d1, d2, d3⟩ | d
    · have := b3 j (y + q2.1, [rmN g j] ++ q2.2) hj (by rw [if_pos hbj, d1, d2]; rfl)
      have : x + q'.1 < y + q2.1 := this
      show _ ≠ x + q'.1
      omega
    · show _ ≠ x + q'.1
      have hq : x + q'.1 ≤ 11 * cnb (svB g v) 12 := hq
      omega
  · obtain ⟨a1, a2, a3⟩ := rmF_ok (g := g) b1
    rcases e1 : dO ν n room (rmN g i) with _ | x
    · rw [e1] at b2; cases b2
    · rcases e2 : tvT ν n (svB g (v - 2 ^ i)) (rmN g i) with _ | q'
      · rw [e1, e2] at b2; cases b2
      · exfalso
        have ed := dF_eq h hroom (show rmN g i < 12 from a2)
        rw [e1] at ed
        have ed : dF ν n room (rmN g i) = x := ed
        have hf : fvN ν n g (v - 2 ^ i) (rmN g i) = vlB (tvT ν n (svB g (v - 2 ^ i)) (rmN g i)) := rfl
        rw [e2] at hf
        have hf : fvN ν n g (v - 2 ^ i) (rmN g i) = q'.1 := hf
        have hx := dO_le h hroom a2 e1
        have hq' := (tvS_le h (show rmN g i < 12 from a2) e2).1
        have := cnb_le (svB g (v - 2 ^ i)) 12
        omega
theorem S_nextOf {D v room : Nat} {q : Nat × List Nat} (hD : 2 ≤ D) (μ : m2M) (h : RLn ν μ n p) (hm : cnb g 12 ≤ 6) (hP : ppT ν n g (cnb g 12) μ) (hr : ppR ν n g μ) (hv : v < 2 ^ cnb g 12) (hroom : room < 12) (hne : ∃ i, i < cnb g 12 ∧ v.testBit i = true) (e : tvT ν n (svB g v) room = some q) : m2_MT D yX9_nextOf cX9_nextOf 5 (some .int) [.ref kT, .int (nI room), .int (nI v)] μ (fun r μ' => (∃ i q', r = some (.int (nI i)) ∧ i < cnb g 12 ∧ v.testBit i = true ∧ tvT ν n (svB g (v - 2 ^ i)) (rmN g i) = some q' ∧ q.2 = rmN g i :: q'.2) ∧ μ' = μ) := by
  obtain ⟨D, rfl⟩ : ∃ E, D = E + 1 := ⟨D - 1, by omega⟩
  have hp2 := p2_le hm
  obtain ⟨i0, q', c1, c2, c3, c4, c5, c6⟩ := tv_next h (by omega) hm hroom hne e
  have hq := (tvS_le h hroom e).1
  have hk12 := cnb_le (svB g v) 12
  refine m2_MT.intro (ls := [.ref kT, .int (nI room), .int (nI v), .null, .null]) (by decide +kernel) rfl (ble rfl) (fun κ hk => ?_)
  refine B_X9_nextOf_0 hk ⟨_, S_farFrom (g := g) (by omega) μ h hm hP.1 hv hroom hP.2.2 (fun u i hu hi => hr u i (by omega) hi), fun y1 μ2 h2 => ?_⟩
  obtain ⟨e1, e2⟩ := h2
  cases e1
  subst e2
  have ef : fvN ν n g v room = q.1 := by
    unfold fvN
    rw [e]
    rfl
  rw [ef]
  have bound : ∀ i, i < cnb g 12 → dF ν n room (rmN g i) ≤ 268435456 := by
    intro i hi
    obtain ⟨a1, a2, a3⟩ := rmF_ok (g := g) hi
    exact (wy_F (T := hT ν) (C := fun d => if hO ν d = true then 1 else 0) (far := 268435456) h.N h.AB (show rmN g i < 12 from a2)).2.1 room
  refine dn (n := i0) (G := fun i => κ 10 [.ref kT, .int (nI room), .int (nI v), .int (nI q.1), .int (nI i)] [] μ2) ?_ (fun i hi ih => ?_)
  · have hle : 2 ^ i0 ≤ v := Nat.ge_two_pow_of_testBit c2
    have hpos : 0 < 2 ^ i0 := Nat.pow_pos (by decide)
    refine B_X9_nextOf_10 hk (Nat.zero_le _) ⟨fun w => absurd (by rw [hP.1] at w; exact w) (nI_ge c1 (by omega)), fun _ => ⟨fun w => ?_, fun w => absurd ((tb_has v (by omega) i0 (by omega)).mpr c2) w⟩⟩
    refine ⟨i0, rfl, by omega, vp_in_nI hroom (by decide), v - 2 ^ i0, tb_int v (by omega) i0 (by omega) c2, by omega, vp_in_nI (by omega) (by decide), ?_⟩
    rw [nI_clamp (by omega), nI_clamp (by omega), hP.2.2 i0 room c1 hroom, hr (v - 2 ^ i0) i0 (by omega) c1, nI_add, c3]
    exact ⟨fun w => absurd rfl w, fun _ => ⟨⟨i0, q', rfl, c1, c2, c4, c5⟩, rfl⟩⟩
  · refine B_X9_nextOf_10 hk (Nat.zero_le _) ⟨fun w => absurd (by rw [hP.1] at w; exact w) (nI_ge (show i < cnb g 12 by omega) (by omega)), fun _ => ⟨fun w => ?_, fun w => by rw [nI_1]; exact ih⟩⟩
    have hb := (tb_has v (by omega) i (by omega)).mp w
    have hle : 2 ^ i ≤ v := Nat.ge_two_pow_of_testBit hb
    have hpos : 0 < 2 ^ i := Nat.pow_pos (by decide)
    obtain ⟨a1, a2, a3⟩ := rmF_ok (g := g) (show i < cnb g 12 by omega)
    have hf1 := fvN_le (g := g) (v := v - 2 ^ i) h (show rmN g i < 12 from a2)
    have hd1 := bound i (by omega)
    refine ⟨i, rfl, by omega, vp_in_nI hroom (by decide), v - 2 ^ i, tb_int v (by omega) i (by omega) hb, by omega, vp_in_nI (by omega) (by decide), ?_⟩
    rw [nI_clamp (by omega), nI_clamp (by omega), hP.2.2 i room (by omega) hroom, hr (v - 2 ^ i) i (by omega) (by omega), nI_add, nI_1]
    exact ⟨fun _ => ih, fun w => absurd ((nI_eq (by omega) (by omega)).mp w) (c6 i hi hb)⟩
end NX
