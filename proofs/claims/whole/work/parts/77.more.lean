/-! more -/
theorem vF.tell {ν μ' : m2M} {l : List Int64} (q : vF ν μ') (h : rM l μ') (hl : l.length ≤ 16) : vM (tlM ν l) μ' := by
  refine ⟨fun c j h1 h2 => ?_, fun r j a b hj => ?_⟩
  · by_cases e : c = kM ∧ j = 21
    · rw [e.1, e.2, h.1]
      exact (si_at _ _ _ _).symm
    · rw [q c j h1 h2 e]
      unfold tlM
      by_cases e1 : c = kM
      · subst e1
        rw [si_nj _ _ _ (fun w => e ⟨rfl, w⟩)]
        rfl
      · rw [si_nc _ _ _ e1]
        rfl
  · have a : nI l.length = nI r := a
    have := (nI_eq (by omega) (by omega)).mp a
    rw [h.2 j (by omega)]
    show lst l j = (m2_sl ν kM_row (lst l)).2 kM_row j
    rw [m2_sl_same]
def rowS (W : Nat → Nat → Nat) (a b : Nat) : Nat := sumN (fun j => if a = j then 0 else W a j) b
def totS (W : Nat → Nat → Nat) (n a : Nat) : Nat := sumN (fun i => rowS W i n) a
theorem rowS_e {W : Nat → Nat → Nat} {a : Nat} : rowS W a (a + 1) = rowS W a a := by
  unfold rowS
  show sumN _ a + (if a = a then 0 else W a a) = _
  rw [if_pos rfl, Nat.add_zero]
theorem rowS_n {W : Nat → Nat → Nat} {a b : Nat} (h : a ≠ b) : rowS W a (b + 1) = rowS W a b + W a b := by
  unfold rowS
  show sumN _ b + (if a = b then 0 else W a b) = _
  rw [if_neg h]
theorem rowS_le {W : Nat → Nat → Nat} {a b N : Nat} (h : ∀ j, j < b → a ≠ j → W a j ≤ N) : rowS W a b ≤ b * N := by
  rw [← sumN_const]
  refine sumN_le (fun j hj => ?_)
  split
  · exact Nat.zero_le _
  · next e => exact h j hj e
noncomputable def mrW (m : Nat) (A B : Nat → Nat) (T : Nat → Bool) (L : Nat → Nat) (a b : Nat) : Nat := mW (dcut m A B T L) a b
def up1 (L : Nat → Nat) (d : Nat) : Nat → Nat := updN L d (L d + 1)
set_option maxHeartbeats 1000000 in
theorem S_sumPairs {D m n : Nat} {A B : Nat → Nat} {T : Nat → Bool} {L : Nat → Nat} (hD : 3 ≤ D) (μ : m2M) (h : fwA μ m A B T L) (hm : m ≤ 20) (hn : n ≤ 12) : m2_MT D yX1_sumOfPairs cX1_sumOfPairs 5 (some .int) [.ref kF, .int (nI n)] μ (fun r μ' => frK μ μ' ∧ r = some (.int (nI (totS (mrW m A B T L) n n))) ∧ ∀ d, d < m → ∃ g, g ≤ 144 ∧ μ'.1 kF_gain d = nI g ∧ g + totS (mrW m A B T L) n n = totS (mrW m A B T (up1 L d)) n n) := by
  obtain ⟨D, rfl⟩ : ∃ E, D = E + 1 := ⟨D - 1, by omega⟩
  refine m2_MT.intro (ls := [.ref kF, .int (nI n), .null, .null, .null]) (by decide +kernel) rfl (ble rfl) (fun κ hk => ?_)
  refine B_X1_sumOfPairs_0 hk ⟨_, S_fill sh_kF_gain (by decide) 0 μ, fun μ2 h2 => ?_⟩
  let W0 := mrW m A B T L
  let Wd := fun d => mrW m A B T (up1 L d)
  let st : Nat → Nat → m2M → Prop := fun a b M => frK μ M ∧ fwA M m A B T L ∧ ∀ d, d < m → ∃ g, g ≤ 12 * a + b ∧ M.1 kF_gain d = nI g ∧ g + (totS W0 n a + rowS W0 a b) = totS (Wd d) n a + rowS (Wd d) a b
  have outer : ∀ (f a : Nat) (M : m2M), a + f = n → st a 0 M → κ 12 [.ref kF, .int (nI n), .int (nI (totS W0 n a)), .int (nI a), .null] [] M := by
    intro f
    induction f with
    | zero =>
      intro a M ha hs
      have ea : a = n := by omega
      subst ea
      refine B_X1_sumOfPairs_12 hk ⟨fun _ => ⟨hs.1, rfl, fun d hd => ?_⟩, fun w => absurd (nI_le (Nat.le_refl _) (by omega)) w⟩
      obtain ⟨g, g1, g2, g3⟩ := hs.2.2 d hd
      exact ⟨g, by omega, g2, g3⟩
    | succ f ih =>
      intro a M ha hs
      refine B_X1_sumOfPairs_12 hk ⟨fun w => absurd w (nI_ge (by omega) (by omega)), fun _ => ?_⟩
      have inner : ∀ (g b : Nat) (M : m2M), b + g = n → st a b M → κ 20 [.ref kF, .int (nI n), .int (nI (totS W0 n a + rowS W0 a b)), .int (nI a), .int (nI b)] [] M := by
        intro g
        induction g with
        | zero =>
          intro b M hb hs
          have eb : b = n := by omega
          subst eb
          refine B_X1_sumOfPairs_20 hk ⟨fun _ => ?_, fun w => absurd (nI_le (Nat.le_refl _) (by omega)) w⟩
          rw [nI_1]
          refine ih (a + 1) M (by omega) ⟨hs.1, hs.2.1, fun d hd => ?_⟩
          obtain ⟨g, g1, g2, g3⟩ := hs.2.2 d hd
          exact ⟨g, by omega, g2, g3⟩
        | succ g ihg =>
          intro b M hb hs
          refine B_X1_sumOfPairs_20 hk ⟨fun w => absurd w (nI_ge (by omega) (by omega)), fun _ => ⟨fun w => ?_, fun w => ?_⟩⟩
          · have e : a = b := (nI_eq (by omega) (by omega)).mp w
            subst e
            rw [nI_1, ← rowS_e]
            refine ihg (a + 1) M (by omega) ⟨hs.1, hs.2.1, fun d hd => ?_⟩
            obtain ⟨g, g1, g2, g3⟩ := hs.2.2 d hd
            rw [rowS_e, rowS_e]
            exact ⟨g, by omega, g2, g3⟩
          · have hab : a ≠ b := fun e => w (by rw [e])
            refine ⟨_, S_greatest (by omega) M hs.2.1 (by omega) (by omega) hab, fun y3 μ4 h4 => ?_⟩
            obtain ⟨f4, V, R, fl, e4, R4, k4, m4, l4, x4, c4⟩ := h4
            cases e4
            refine ⟨_, S_comingTo (by omega) μ4 R4 (show b < 12 by omega), fun y8 μ9 h9 => ?_⟩
            obtain ⟨⟨Z, e8, b8, k8⟩, e9⟩ := h9
            cases e8
            subst e9
            rw [k4]
            have a4 := f4.Aa hs.2.1
            refine ⟨_, S_addGains (by omega) _ a4 hm, fun μ14 h14 => ?_⟩
            obtain ⟨f14, g14⟩ := h14
            have fK : frK μ μ14 := (hs.1.tr f4.k).tr (f14.mo (fun c hc => by
              cases e : (c == kF_gain) with
              | false => rfl
              | true => rw [beq_iff_eq.mp e] at hc; cases hc))
            have eV : V = W0 a b := mnP_eq m4.n
            rw [nI_add, nI_1, eV, Nat.add_assoc, ← rowS_n hab]
            refine ihg (b + 1) μ14 (by omega) ⟨fK, ?_, fun d hd => ?_⟩
            · obtain ⟨q1, q2, q3⟩ := a4
              refine ⟨by rw [(f14 kF rfl).1]; exact q1, q2, fun d hd => ?_⟩
              rw [(f14 kF_a rfl).1, (f14 kF_b rfl).1, (f14 kF_oneWay rfl).1, (f14 kF_lets rfl).1]
              exact q3 d hd
            · obtain ⟨g, g1, g2, g3⟩ := hs.2.2 d hd
              have eG := mnP_eq (gain_V hd m4 c4 b8 k8)
              have eG : V + (if gnB A B T R Z d = true then 1 else 0) = Wd d a b := eG
              rw [g14 d hd, (f4.1 kF_gain rfl).1, g2, rowS_n hab, rowS_n hab]
              by_cases z : gnB A B T R Z d = true
              · rw [if_pos z] at eG ⊢
                exact ⟨g + 1, by omega, nI_1 _, by omega⟩
              · rw [if_neg z] at eG ⊢
                exact ⟨g, by omega, Int32.add_zero _, by omega⟩
      exact inner n 0 M (by omega) hs
  have fK : frK μ μ2 := by
    rw [h2]
    exact fr_sr rfl fr.rf
  refine outer n 0 μ2 (by omega) ⟨fK, ?_, fun d hd => ⟨0, by omega, ?_, rfl⟩⟩
  · rw [h2]
    exact h
  · rw [h2, m2_sr_same]
    exact if_pos (by omega)
set_option maxHeartbeats 1000000 in
theorem S_sumPairsM {D n p N : Nat} {L : Nat → Nat} {x2 : Int32} (hD : 4 ≤ D) (ν μ0 μ : m2M) (h : RLn ν μ0 n p) (hv : vF ν μ) (hN : N ≤ 12) (hL : ∀ d, d < n → L d ≤ 61 ∧ nI (dL ν d) + (if nI d = x2 then 1 else 0) = nI (L d)) : m2_MT D yX12_sumOfPairs cX12_sumOfPairs 6 (some .int) [.ref kM, .int (nI N), .int x2] μ (fun r μ' => fr isGm μ μ' ∧ r = some (.int (nI (totS (mrW n (dA ν) (dB ν) (dT ν) L) N N))) ∧ totS (mrW n (dA ν) (dB ν) (dT ν) L) N N ≤ 784000 * 144) := by
  obtain ⟨D, rfl⟩ : ∃ E, D = E + 1 := ⟨D - 1, by omega⟩
  let W := mrW n (dA ν) (dB ν) (dT ν) L
  refine m2_MT.intro (ls := [.ref kM, .int (nI N), .int x2, .null, .null, .null]) (by decide +kernel) rfl (ble rfl) (fun κ hk => ?_)
  refine B_X12_sumOfPairs_0 hk ?_
  have outer : ∀ (f a : Nat) (M : m2M), a + f = N → fr isGm μ M → totS W N a ≤ 784000 * (12 * a) → κ 5 [.ref kM, .int (nI N), .int x2, .int (nI (totS W N a)), .int (nI a), .null] [] M := by
    intro f
    induction f with
    | zero =>
      intro a M ha hs hle
      have ea : a = N := by omega
      subst ea
      exact B_X12_sumOfPairs_5 hk ⟨fun _ => ⟨hs, rfl, by show totS W a a ≤ _; omega⟩, fun w => absurd (nI_le (Nat.le_refl _) (by omega)) w⟩
    | succ f ih =>
      intro a M ha hs hle
      refine B_X12_sumOfPairs_5 hk ⟨fun w => absurd w (nI_ge (by omega) (by omega)), fun _ => ?_⟩
      have inner : ∀ (g b : Nat) (M : m2M), b + g = N → fr isGm μ M → totS W N a + rowS W a b ≤ 784000 * (12 * a + b) → κ 14 [.ref kM, .int (nI N), .int x2, .int (nI (totS W N a + rowS W a b)), .int (nI a), .int (nI b)] [] M := by
        intro g
        induction g with
        | zero =>
          intro b M hb hs hle
          have eb : b = N := by omega
          subst eb
          refine B_X12_sumOfPairs_14 hk ⟨fun _ => ?_, fun w => absurd (nI_le (Nat.le_refl _) (by omega)) w⟩
          rw [nI_1]
          exact ih (a + 1) M (by omega) hs (by show totS W b a + rowS W a b ≤ _; omega)
        | succ g ihg =>
          intro b M hb hs hle
          refine B_X12_sumOfPairs_14 hk ⟨fun w => absurd w (nI_ge (by omega) (by omega)), fun _ => ⟨fun w => ?_, fun w => ?_⟩⟩
          · have e : a = b := (nI_eq (by omega) (by omega)).mp w
            subst e
            rw [nI_1, ← rowS_e]
            exact ihg (a + 1) M (by omega) hs (by rw [rowS_e]; omega)
          · have hab : a ≠ b := fun e => w (by rw [e])
            refine ⟨_, S_manyWith (L := L) (by omega) ν μ0 M h (frGm_f hs hv) (by omega) (by omega) hab hL, fun y3 μ4 h4 => ?_⟩
            obtain ⟨f4, e4, ⟨l4, R4, m4⟩, _⟩ := h4
            cases e4
            have eV : mV (dcut n (dA ν) (dB ν) (dT ν) L) a b = W a b := mnP_eq m4.n
            rw [eV] at l4 ⊢
            rw [nI_add, nI_1, Nat.add_assoc, ← rowS_n hab]
            exact ihg (b + 1) μ4 (by omega) (hs.tr f4) (by rw [rowS_n hab]; omega)
      exact inner N 0 M (by omega) hs (by show totS W N a + 0 ≤ _; omega)
  exact outer N 0 μ (by omega) fr.rf (by show 0 ≤ _; omega)
