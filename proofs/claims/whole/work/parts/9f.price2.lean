/-! price: the class's leaves -/
theorem rk_le (x : Int32) : rk x ≤ 4 := by
  unfold rk
  split
  · decide
  · split
    · decide
    · split
      · decide
      · split
        · decide
        · split
          · decide
          · split
            · decide
            · split <;> decide
theorem S_rankOf {D : Nat} (c : Int32) (μ : m2M) : m2_MT D yX7_rankOf cX7_rankOf 1 (some .int) [.int c] μ (fun r μ' => r = some (.int (nI (rk c))) ∧ μ' = μ) := by
  refine m2_MT.intro (ls := [.int c]) (by decide +kernel) rfl (ble rfl) (fun κ hk => ?_)
  refine B_X7_rankOf_0 hk ⟨fun w => ⟨by rw [w]; rfl, rfl⟩, fun w1 => ⟨fun w => ⟨by rw [w]; rfl, rfl⟩, fun w2 => ⟨fun w => ⟨by rw [w]; rfl, rfl⟩, fun w3 => ⟨fun w => ⟨by rw [w]; rfl, rfl⟩, fun w4 => ⟨fun w => ⟨by rw [w]; rfl, rfl⟩, fun w5 => ⟨fun w => ⟨by rw [w]; rfl, rfl⟩, fun w6 => ⟨fun w => ⟨by rw [w]; rfl, rfl⟩, fun w7 => ⟨?_, rfl⟩⟩⟩⟩⟩⟩⟩⟩
  unfold rk
  rw [if_neg w1, if_neg w2, if_neg w3, if_neg w4, if_neg w5, if_neg w6, if_neg w7]
  rfl
theorem S_emit {D n : Nat} (c : Int32) (μ : m2M) (h5 : μ.1 kE 5 = nI n) (hn : n < 40) : m2_MT D yX7_emit cX7_emit 2 none [.ref kE, .int c] μ (fun _ μ' => μ' = m2_si (m2_si μ kE_draft n c) kE 5 (nI (n + 1))) := by
  refine m2_MT.intro (ls := [.ref kE, .int c]) (by decide +kernel) rfl (ble rfl) (fun κ hk => ?_)
  refine B_X7_emit_0 hk ?_
  rw [h5]
  refine ⟨fun w => absurd w (nI_ge (b := 40) hn (by decide)), fun _ => ⟨vp_in_nI hn (by decide), ?_⟩⟩
  rw [nI_clamp (by omega), nI_1]
theorem S_hold {D n : Nat} (c : Int32) (μ : m2M) (h7 : μ.1 kE 7 = nI n) (hn : n < 40) : m2_MT D yX7_hold cX7_hold 2 none [.ref kE, .int c] μ (fun _ μ' => μ' = m2_si (m2_si μ kE_waiting n c) kE 7 (nI (n + 1))) := by
  refine m2_MT.intro (ls := [.ref kE, .int c]) (by decide +kernel) rfl (ble rfl) (fun κ hk => ?_)
  refine B_X7_hold_0 hk ?_
  rw [h7]
  refine ⟨fun w => absurd w (nI_ge (b := 40) hn (by decide)), fun _ => ⟨vp_in_nI hn (by decide), ?_⟩⟩
  rw [nI_clamp (by omega), nI_1]
/-- the row that is drafted, the signs that wait -/
def xW (o ws : List Int32) (M : m2M) : Prop := M.1 kE 5 = nI o.length ∧ (∀ i c, o[i]? = some c → M.1 kE_draft i = c) ∧ M.1 kE 7 = nI ws.length ∧ stk (M.1 kE_waiting) ws
def frEm (M M' : m2M) : Prop := fr (fun c => (c == kE) || (c == kE_draft)) M M' ∧ ∀ j, j ≠ 5 → j ≠ 7 → M'.1 kE j = M.1 kE j
theorem frEm.rf {M : m2M} : frEm M M := ⟨fr.rf, fun _ _ _ => rfl⟩
theorem frEm.tr {μ ν ρ : m2M} (h1 : frEm μ ν) (h2 : frEm ν ρ) : frEm μ ρ := ⟨h1.1.tr h2.1, fun j a b => (h2.2 j a b).trans (h1.2 j a b)⟩
theorem xW.emit {o ws : List Int32} {M : m2M} (h : xW o ws M) (c : Int32) : xW (o ++ [c]) ws (m2_si (m2_si M kE_draft o.length c) kE 5 (nI (o.length + 1))) := by
  obtain ⟨h1, h2, h3, h4⟩ := h
  refine ⟨?_, fun i d hi => ?_, ?_, ?_⟩
  · rw [si_at]; simp
  · rw [si_nc _ _ _ (by decide)]
    by_cases z : i < o.length
    · rw [List.getElem?_append_left z] at hi
      rw [si_nj _ _ _ (by omega)]
      exact h2 i d hi
    · have hil : i < o.length + 1 := by
        have := (List.getElem?_eq_some_iff.mp hi).1
        simpa using this
      have e : i = o.length := by omega
      subst e
      have : c = d := by simpa using hi
      rw [si_at, this]
  · rw [si_nj _ _ _ (by decide), si_nc _ _ _ (by decide)]; exact h3
  · rw [si_nc _ _ _ (by decide), si_nc _ _ _ (by decide)]; exact h4
theorem xW.hold {o ws : List Int32} {M : m2M} (h : xW o ws M) (c : Int32) : xW o (c :: ws) (m2_si (m2_si M kE_waiting ws.length c) kE 7 (nI (ws.length + 1))) := by
  obtain ⟨h1, h2, h3, h4⟩ := h
  refine ⟨?_, fun i d hi => ?_, ?_, ?_⟩
  · rw [si_nj _ _ _ (by decide), si_nc _ _ _ (by decide)]; exact h1
  · rw [si_nc _ _ _ (by decide), si_nc _ _ _ (by decide)]; exact h2 i d hi
  · rw [si_at]; rfl
  · rw [si_nc _ _ _ (by decide)]
    refine ⟨si_at _ _ _ _, ?_⟩
    unfold m2_si
    rw [m2_sr_same]
    exact stk_up h4 (Nat.le_refl _)
theorem S_release {D r : Nat} (hD : 1 ≤ D) (hr : r ≤ 4) (hr1 : 1 ≤ r) (μ : m2M) {o pd ws : List Int32} (h : xW o (pd ++ ws) μ) (hl : o.length + (pd ++ ws).length ≤ 40) (hp : rkA r pd) (hw : tLt r ws) : m2_MT D yX7_release cX7_release 2 none [.ref kE, .int (nI r)] μ (fun _ μ' => xW (o ++ ngL pd) ws μ' ∧ frEm μ μ') := by
  obtain ⟨D, rfl⟩ : ∃ E, D = E + 1 := ⟨D - 1, by omega⟩
  refine m2_MT.intro (ls := [.ref kE, .int (nI r)]) (by decide +kernel) rfl (ble rfl) (fun κ hk => ?_)
  have go : ∀ (pd1 o1 : List Int32) (M : m2M), o1 ++ ngL pd1 = o ++ ngL pd → xW o1 (pd1 ++ ws) M → o1.length + (pd1 ++ ws).length ≤ 40 → rkA r pd1 → frEm μ M → κ 0 [.ref kE, .int (nI r)] [] M := by
    intro pd1
    induction pd1 with
    | nil =>
      intro o1 M e x1 l1 p1 f1
      have e : o1 = o ++ ngL pd := by rw [← e]; show o1 = o1 ++ []; rw [List.append_nil]
      subst e
      cases ws with
      | nil =>
        refine B_X7_release_0 hk ⟨fun _ => ⟨x1, f1⟩, fun w => absurd (by rw [x1.2.2.1]; decide) w⟩
      | cons x ws =>
        have l7 : ([] ++ x :: ws : List Int32).length = ws.length + 1 := rfl
        have h7 : M.1 kE 7 = nI (ws.length + 1) := x1.2.2.1
        rw [l7] at l1
        refine B_X7_release_0 hk ?_
        rw [h7]
        refine ⟨fun w => absurd w (nI_nle (by omega) (by omega)), fun _ => ?_⟩
        rw [show (1 : Int32) = nI 1 from rfl, pk_sub (by omega), Nat.add_sub_cancel, nI_clamp (by omega)]
        have hx : M.1 kE_waiting ws.length = x := x1.2.2.2.1
        rw [hx]
        refine ⟨vp_in_nI (by omega) (by decide), _, S_rankOf x M, fun y4 μ5 h5 => ?_⟩
        obtain ⟨e4, e5⟩ := h5
        cases e4
        subst e5
        have hw' : rk x < r := hw
        exact ⟨fun _ => ⟨x1, f1⟩, fun w => absurd (nI_lt hw' (by omega)) w⟩
    | cons x pd1 ih =>
      intro o1 M e x1 l1 p1 f1
      have l7 : (x :: pd1 ++ ws : List Int32).length = (pd1 ++ ws).length + 1 := rfl
      have h7 : M.1 kE 7 = nI ((pd1 ++ ws).length + 1) := x1.2.2.1
      rw [l7] at l1
      refine B_X7_release_0 hk ?_
      rw [h7]
      refine ⟨fun w => absurd w (nI_nle (by omega) (by omega)), fun _ => ?_⟩
      rw [show (1 : Int32) = nI 1 from rfl, pk_sub (by omega), Nat.add_sub_cancel, nI_clamp (by omega)]
      have hx : M.1 kE_waiting (pd1 ++ ws).length = x := x1.2.2.2.1
      rw [hx]
      refine ⟨vp_in_nI (by omega) (by decide), _, S_rankOf x M, fun y4 μ5 h5 => ?_⟩
      obtain ⟨e4, e5⟩ := h5
      cases e4
      subst e5
      have hx4 := rk_le x
      refine ⟨fun w => absurd w (nI_nlt (p1 x (by simp)) (by omega)), fun _ => ?_⟩
      rw [h7, pk_sub (by omega), Nat.add_sub_cancel, nI_clamp (by omega), hx]
      have f2 : frEm μ (m2_si μ5 kE 7 (nI (pd1 ++ ws).length)) := f1.tr ⟨fr_si rfl fr.rf, fun j _ b => si_nj _ _ _ b⟩
      have x2 : xW o1 (pd1 ++ ws) (m2_si μ5 kE 7 (nI (pd1 ++ ws).length)) := ⟨by rw [si_nj _ _ _ (by decide)]; exact x1.1, fun i c hi => by rw [si_nc _ _ _ (by decide)]; exact x1.2.1 i c hi, si_at _ _ _ _, by rw [si_nc _ _ _ (by decide)]; exact x1.2.2.2.2⟩
      refine ⟨vp_in_nI (by omega) (by decide), _, S_emit (n := o1.length) (-x) _ x2.1 (by omega), fun μ12 e12 => ?_⟩
      subst e12
      refine ih (o1 ++ [-x]) _ ?_ (x2.emit (-x)) (by simp only [List.length_append, List.length_cons, List.length_nil] at l1 ⊢; omega) (fun z hz => p1 z (by simp [hz])) (f2.tr ⟨fr_si rfl (fr_si rfl fr.rf), fun j a _ => by rw [si_nj _ _ _ a, si_nc _ _ _ (by decide)]⟩)
      rw [← e, List.append_assoc]
      rfl
  exact go pd o μ rfl h hl hp frEm.rf
theorem hP_in {g : Nat → Int32} {k a : Nat} (h : a < min k 40) : cp_h g k a = g a := if_pos (by omega)
theorem hP_out {g : Nat → Int32} {k a : Nat} (h : min k 40 ≤ a) : cp_h g k a = -1 := if_neg (by omega)
theorem num_eq (v c : Int32) : v * 10 + (c - 48) = 10 * v + c - 48 := by
  rw [Int32.mul_comm, Int32.sub_eq_add_neg, Int32.sub_eq_add_neg, Int32.add_assoc]
theorem S_readNumberP {D k a : Nat} {g : Nat → Int32} (hD : 1 ≤ D) (μ : m2M) (tx : txC μ g) (h10 : μ.1 kE 10 = nI (min k 40)) (h11 : μ.1 kE 11 = nI a) (ha : a ≤ 40) : m2_MT D yX7_readNumber cX7_readNumber 3 (some .int) [.ref kE] μ (fun r μ' => r = some (.int (cp_n g k 3 a 0).1) ∧ μ' = m2_si μ kE 11 (nI (cp_n g k 3 a 0).2)) := by
  obtain ⟨D, rfl⟩ : ∃ E, D = E + 1 := ⟨D - 1, by omega⟩
  refine m2_MT.intro (ls := [.ref kE, .null, .null]) (by decide +kernel) rfl (ble rfl) (fun κ hk => ?_)
  refine B_X7_readNumber_0 hk ?_
  have go : ∀ (j b : Nat) (v : Int32), j ≤ 3 → b ≤ 40 → cp_n g k 3 a 0 = cp_n g k j b v → κ 4 [.ref kE, .int v, .int (nI (3 - j))] [] (m2_si μ kE 11 (nI b)) := by
    intro j
    induction j with
    | zero =>
      intro b v _ hb e
      refine B_X7_readNumber_4 hk (Nat.zero_le _) ⟨fun _ => ?_, fun w => absurd (by decide) w⟩
      rw [e]
      exact ⟨rfl, rfl⟩
    | succ j ih =>
      intro b v hj hb e
      have e1 : (m2_si μ kE 11 (nI b)).1 kE 10 = nI (min k 40) := by rw [si_nj _ _ _ (by decide)]; exact h10
      have e2 : (m2_si μ kE 11 (nI b)).1 kE 11 = nI b := si_at _ _ _ _
      refine B_X7_readNumber_4 hk (Nat.zero_le _) ⟨fun w => absurd w (nI_ge (b := 3) (by omega) (by decide)), fun _ => ?_⟩
      rw [e1, e2]
      have ex : cp_n g k (j + 1) b v = if cp_dg (cp_h g k b) = true then cp_n g k j (b + 1) (10 * v + cp_h g k b - 48) else (v, b) := rfl
      rw [ex] at e
      refine pk_le (min k 40) b (fun z => ?_) (fun z => ⟨vp_in_nI (by omega) (by decide), ?_⟩) rfl rfl (by omega) (by omega)
      · rw [hP_out z, if_neg (by decide)] at e
        rw [e]
        exact ⟨rfl, rfl⟩
      · obtain ⟨c, hc, t1, t2⟩ := tx b (by omega)
        rw [nI_clamp (by omega), show (m2_si μ kE 11 (nI b)).1 kC_text b = nI c by rw [si_nc _ _ _ (by decide)]; exact t1]
        rw [hP_in z, t2] at e
        refine ⟨fun w => ?_, fun w => ?_⟩
        · have d1 := (tx_dg hc).mp w
          rw [if_pos d1] at e
          obtain ⟨x, hx, ex2⟩ := dg_val d1
          have e3 : nI c = (nI c).toInt8.toInt32 := by
            rw [ex2]
            exact (tx_eq hc (by omega)).mpr ex2
          rw [num_eq, m2_si_si, nI_1, nI_1, e3]
          have := ih (b + 1) (10 * v + (nI c).toInt8.toInt32 - 48) (by omega) (by omega) e
          rw [show 3 - j = 3 - (j + 1) + 1 by omega] at this
          exact this
        · have d1 : ¬ cp_dg (nI c).toInt8.toInt32 = true := fun q => w ((tx_dg hc).mpr q)
          rw [if_neg d1] at e
          rw [e]
          exact ⟨rfl, rfl⟩
  have := go 3 a 0 (Nat.le_refl 3) ha rfl
  rw [m2_si_id h11] at this
  exact this
