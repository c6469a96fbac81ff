/-! many, bars, counts -/
/-- the reference's cells, but for how long the ROW is -/
def vF (ν μ : m2M) : Prop := ∀ c j, isM c = true → scr c j = false → ¬ (c = kM ∧ j = 21) → μ.1 c j = ν.1 c j
theorem vM.f {ν μ : m2M} (h : vM ν μ) : vF ν μ := fun c j h1 h2 _ => h.1 c j h1 h2
theorem frGm_f {ν μ μ' : m2M} (h : fr isGm μ μ') (q : vF ν μ) : vF ν μ' := fun c j h1 h2 h3 => ((frGm_ag h).1 c j h2).trans (q c j h1 h2 h3)
theorem twM.f {ν μ μ' : m2M} (h : twM μ μ') (q : vF ν μ) : vF ν μ' := by
  obtain ⟨g, z, rfl⟩ := h
  intro c j h1 h2 h3
  refine Eq.trans ?_ (q c j h1 h2 h3)
  by_cases e : c = kM
  · subst e
    rw [si_nj _ _ _ (fun e => h3 ⟨rfl, e⟩)]
    rfl
  · rw [si_nc _ _ _ e]
    rfl
/-- so many DOORS are laid in the reference's table -/
def lyS (ν : m2M) (L : Nat → Nat) (i : Nat) (M : m2M) : Prop := ∃ c : Nat → Nat, (∀ k, k < 196 → M.1 kM_can k = nI (c k)) ∧ (∀ k, k < 196 → c k ≤ 61 * i) ∧ ∀ X : Nat → Bool, cutC c X = sumN (rcT (dA ν) (dB ν) (dT ν) L L X) i
theorem lyS_0 {ν M : m2M} {L : Nat → Nat} (h : ∀ k, k < 196 → M.1 kM_can k = nI 0) : lyS ν L 0 M := ⟨fun _ => 0, h, fun _ _ => Nat.zero_le _, fun X => by
  show _ = 0
  refine sumN_of0 (fun k _ => ?_)
  split <;> rfl⟩
theorem S_layDoor {D n p i : Nat} {L : Nat → Nat} {v : Int32} (ν μ0 μ : m2M) (h : RLn ν μ0 n p) (hv : vF ν μ) (hi : i < n) (hL : L i ≤ 61) (ev : v = nI (L i)) (hs : lyS ν L i μ) : m2_MT D yX12_layDoor cX12_layDoor 3 none [.ref kM, .int (nI i), .int v] μ (fun _ μ' => fr isGm μ μ' ∧ lyS ν L (i + 1) μ') := by
  have hn := h.n20
  obtain ⟨c, c1, c2, c3⟩ := hs
  obtain ⟨z1, z2, z3, z4, z5, z6, z7, z8⟩ := h.dr hi
  have q1 : μ.1 kM_doorA i = nI (dA ν i) := (hv kM_doorA i rfl rfl (fun e => absurd e.1 (by decide))).trans z1
  have q2 : μ.1 kM_doorB i = nI (dB ν i) := (hv kM_doorB i rfl rfl (fun e => absurd e.1 (by decide))).trans z3
  have q3 : μ.1 kM_isOneWay i = _ := (hv kM_isOneWay i rfl rfl (fun e => absurd e.1 (by decide))).trans z6
  subst ev
  have fin : ∀ M : m2M, fr isGm μ M → (∀ k, k < 196 → M.1 kM_can k = nI (layN c (dA ν i) (dB ν i) (dT ν i) (L i) k)) → fr isGm μ M ∧ lyS ν L (i + 1) M := by
    intro M hM hk
    refine ⟨hM, _, hk, fun k hk' => ?_, fun X => ?_⟩
    · have := layN_le (v := L i) (t := dT ν i) (N := 61 * i) z5 (by omega) (by omega) c2 k hk'
      omega
    · rw [layN_cut X (by omega) (by omega) z5, c3 X]
      show _ = sumN (rcT (dA ν) (dB ν) (dT ν) L L X) i + rcT (dA ν) (dB ν) (dT ν) L L X i
      unfold rcT fwS
      rw [Nat.add_sub_cancel_left]
  refine m2_MT.intro (ls := [.ref kM, .int (nI i), .int (nI (L i))]) (by decide +kernel) rfl (ble rfl) (fun κ hk => ?_)
  refine B_X12_layDoor_0 hk ⟨vp_in_nI (by omega) (by decide), ?_⟩
  rw [nI_clamp (by omega), q1, q2, q3, can_ix, can_ix, nI_clamp (by omega), nI_clamp (by omega)]
  refine ⟨vp_in_nI (by omega) (by decide), fun w => ?_, fun w => ⟨vp_in_nI (by omega) (by decide), ?_⟩⟩
  · have ht : dT ν i = false := by
      cases e : dT ν i with
      | false => rfl
      | true => rw [e, if_pos rfl] at w; exact absurd rfl w
    refine fin _ (fr_si rfl fr.rf) (fun k hk' => ?_)
    unfold layN
    rw [ht, if_neg (by decide), c1 _ (by omega), nI_add]
    by_cases z : k = 14 * dA ν i + dB ν i
    · rw [z, si_at, updN_at]
    · rw [si_nj _ _ _ z, updN_ne z]; exact c1 k hk'
  · have ht : dT ν i = true := by
      cases e : dT ν i with
      | true => rfl
      | false => rw [e, if_neg (by decide)] at w; exact absurd w (by decide)
    refine fin _ (fr_si rfl (fr_si rfl fr.rf)) (fun k hk' => ?_)
    unfold layN
    rw [ht, if_pos rfl, si_nj _ _ _ (show 14 * dB ν i + dA ν i ≠ 14 * dA ν i + dB ν i by omega), c1 _ (by omega), c1 _ (by omega), nI_add, nI_add]
    by_cases z : k = 14 * dB ν i + dA ν i
    · rw [z, si_at, updN_at]
    · rw [si_nj _ _ _ z, updN_ne z]
      by_cases z2 : k = 14 * dA ν i + dB ν i
      · rw [z2, si_at, updN_at]
      · rw [si_nj _ _ _ z2, updN_ne z2]; exact c1 k hk'
/-- what a flow of the reference tells -/
def flW (dc : (Nat → Bool) → Nat) (frm to : Nat) (r : Option Value) (μ' : m2M) : Prop := r = some (.int (nI (mV dc frm to))) ∧ (mV dc frm to ≤ 784000 ∧ ∃ R, mcP dc frm to (mV dc frm to) R) ∧ ∀ x, x < 14 → (μ'.1 kM_cameFrom x = -1 ↔ mR dc frm to x = false)
theorem flR.w {c : Nat → Nat} {dc : (Nat → Bool) → Nat} {frm to : Nat} {r : Option Value} {μ' : m2M} (h : flR c frm to r μ') (hd : ∀ X, cutC c X = dc X) : flW dc frm to r μ' := by
  have : cutC c = dc := funext hd
  subst this
  obtain ⟨V, R, h1, h2, h3, h4⟩ := h
  obtain ⟨e1, e2⟩ := mcP_eq h3
  refine ⟨by rw [h1, e1], ⟨by omega, R, by rw [← e1]; exact h3⟩, fun x hx => ?_⟩
  rw [h4 x hx, e2 x]
theorem S_flowD {D n frm to : Nat} {L : Nat → Nat} (hD : 2 ≤ D) (ν μ : m2M) (hn : n ≤ 20) (hs : lyS ν L n μ) (hfrm : frm < 14) (hto : to < 14) (hne : frm ≠ to) : m2_MT D yX12_flow cX12_flow 6 (some .int) [.ref kM, .int (nI frm), .int (nI to)] μ (fun r μ' => fr isGm μ μ' ∧ flW (dcut n (dA ν) (dB ν) (dT ν) L) frm to r μ') := by
  obtain ⟨c, c1, c2, c3⟩ := hs
  refine (S_flow hD μ c1 (fun r s hr hs => ?_) hfrm hto hne).mono ?_
  · have := c2 (14 * r + s) (by omega)
    have := c2 (14 * s + r) (by omega)
    omega
  · rintro r μ' ⟨h1, h2⟩
    exact ⟨h1, h2.w c3⟩
theorem S_manyWith {D n p frm to : Nat} {L : Nat → Nat} {x3 x4 : Int32} (hD : 3 ≤ D) (ν μ0 μ : m2M) (h : RLn ν μ0 n p) (hv : vF ν μ) (hfrm : frm < 14) (hto : to < 14) (hne : frm ≠ to) (hL : ∀ d, d < n → L d ≤ 61 ∧ nI (dL ν d) + (if nI d = x3 then x4 else 0) = nI (L d)) : m2_MT D yX12_manyWith cX12_manyWith 6 (some .int) [.ref kM, .int (nI frm), .int (nI to), .int x3, .int x4] μ (fun r μ' => fr isGm μ μ' ∧ flW (dcut n (dA ν) (dB ν) (dT ν) L) frm to r μ') := by
  obtain ⟨D, rfl⟩ : ∃ E, D = E + 1 := ⟨D - 1, by omega⟩
  have hn := h.n20
  refine m2_MT.intro (ls := [.ref kM, .int (nI frm), .int (nI to), .int x3, .int x4, .null]) (by decide +kernel) rfl (ble rfl) (fun κ hk => ?_)
  refine B_X12_manyWith_0 hk ⟨_, S_clearFlow μ, fun μ2 h2 => ?_⟩
  refine dn (n := n) (G := fun i => ∀ M, fr isGm μ M → lyS ν L i M → κ 7 [.ref kM, .int (nI frm), .int (nI to), .int x3, .int x4, .int (nI i)] [] M) (fun M hM hs => ?_) (fun i hi ih M hM hs => ?_) μ2 h2.1 (lyS_0 h2.2)
  · have vv := frGm_f hM hv
    refine B_X12_manyWith_7 hk ⟨fun _ => ⟨_, S_flowD (by omega) ν M hn hs hfrm hto hne, fun y μ4 h4 => ⟨hM.tr h4.1, h4.2⟩⟩, fun w => absurd (by rw [vv kM 0 rfl rfl (by decide), h.1.2.1]; exact nI_le (Nat.le_refl _) (by omega)) w⟩
  · have vv := frGm_f hM hv
    refine B_X12_manyWith_7 hk ⟨fun w => absurd (by rw [vv kM 0 rfl rfl (by decide), h.1.2.1] at w; exact w) (nI_ge hi (by omega)), fun _ => ⟨vp_in_nI (by omega) (by decide), ?_⟩⟩
    rw [nI_clamp (by omega), vv kM_left i rfl rfl (fun e => absurd e.1 (by decide)), (h.dr hi).2.2.2.2.2.2.1, (hL i hi).2, nI_1]
    exact ⟨_, S_layDoor ν μ0 M h vv hi (hL i hi).1 rfl hs, fun μ12 h12 => ih μ12 (hM.tr h12.1) h12.2⟩
/-- what the class's flow tells -/
def gtW (dc : (Nat → Bool) → Nat) (frm to : Nat) (r : Option Value) (μ' : m2M) : Prop := r = some (.int (nI (mV dc frm to))) ∧ mV dc frm to ≤ 1281 ∧ μ'.1 kF 10 = bts (mR dc frm to) 12
theorem S_greatestW {D m frm to : Nat} {A B : Nat → Nat} {T : Nat → Bool} {L : Nat → Nat} (hD : 2 ≤ D) (μ : m2M) (h : fwA μ m A B T L) (hfrm : frm < 12) (hto : to < 12) (hne : frm ≠ to) : m2_MT D yX1_greatest cX1_greatest 6 (some .int) [.ref kF, .int (nI frm), .int (nI to)] μ (fun r μ' => frN μ μ' ∧ gtW (dcut m A B T L) frm to r μ') := by
  refine (S_greatest hD μ h hfrm hto hne).mono ?_
  rintro r μ' ⟨h1, V, R, f, q1, q2, q3, q4, q5, q6, q7⟩
  obtain ⟨e1, e2⟩ := mcP_eq q4
  refine ⟨h1, by rw [q1, e1], by omega, ?_⟩
  rw [q3]
  exact bts_congr (fun i _ => e2 i)
theorem fwA.keep {μ μ' : m2M} {m : Nat} {A B : Nat → Nat} {T : Nat → Bool} {L : Nat → Nat} {S : Nat → Bool} (q : fwA μ m A B T L) (h : fr S μ μ') (hS : ∀ c, 37 ≤ c → c ≤ 45 → S c = false) : fwA μ' m A B T L := by
  obtain ⟨h1, h2, h3⟩ := q
  refine ⟨by rw [(h kF (hS _ (by decide) (by decide))).1]; exact h1, h2, fun d hd => ?_⟩
  rw [(h kF_a (hS _ (by decide) (by decide))).1, (h kF_b (hS _ (by decide) (by decide))).1, (h kF_oneWay (hS _ (by decide) (by decide))).1, (h kF_lets (hS _ (by decide) (by decide))).1]
  exact h3 d hd
