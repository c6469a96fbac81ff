/-! order: Orders.begin -/
theorem cnb_end {g : Nat → Bool} {a : Nat} : ∀ {b : Nat}, a ≤ b → (∀ i, a ≤ i → i < b → g i = false) → cnb g b = cnb g a
  | 0, h, _ => by
    have : a = 0 := by omega
    rw [this]
  | b + 1, h, hz => by
    by_cases e : a = b + 1
    · rw [e]
    · rw [cnb_s, cnb_end (by omega) (fun i h1 h2 => hz i h1 (by omega)), hz b (by omega) (by omega)]
      rfl
theorem hpN_0 {ν : m2M} {n p : Nat} {μ : m2M} (h : RLn ν μ n p) : hpN ν (bzB ν p) p = wdN ν p + bf_sum (fun i => if bzB ν p i = true then woN ν i else 0) p := by
  have hp8 := h.p8
  rw [wdN_sum, ← bf_sum_add]
  refine bf_sum_cg (fun i hi => ?_)
  show hpF ν (bzB ν p) i = (if ν.1 kM_isDone i = 0 then 0 else woN ν i) + (if bzB ν p i = true then woN ν i else 0)
  unfold hpF
  by_cases z : ν.1 kM_isDone i = 0
  · rw [if_pos z, if_pos z]; omega
  · rw [if_neg z, if_neg z, if_neg (fun w => z (gN_err (by omega) (bzB_iff.mp w).2).2)]; rfl
set_option maxHeartbeats 2000000 in
theorem S_ordBegin {D n p pl : Nat} (hD : 3 ≤ D) (ν μ : m2M) (h : RLn ν μ n p) (hm : cnb (bzB ν p) 12 ≤ 6) : m2_MT D yX4_begin cX4_begin 3 none [.ref kO, .int (nI pl)] μ (fun _ μ' => frB μ μ' ∧ oC ν n p pl μ' ∧ μ'.1 kO 8 = -1 ∧ μ'.1 kO 11 = nI (hpN ν (bzB ν p) p) ∧ μ'.1 kO 12 = 0 ∧ μ'.1 kO 14 = nI (muS ν n (bzB ν p) p)) := by
  obtain ⟨D, rfl⟩ : ∃ E, D = E + 1 := ⟨D - 1, by omega⟩
  have hp8 := h.p8
  have hwd := wdN_792 h
  refine m2_MT.intro (ls := [.ref kO, .int (nI pl), .null]) (by decide +kernel) rfl (ble rfl) (fun κ hk => ?_)
  have f0 : frB μ (m2_si (m2_si μ kO 10 (nI pl)) kO 7 0) := fr_si rfl (fr_si rfl fr.rf)
  refine B_X4_begin_0 hk ⟨_, S_worthDone ν _ (f0.j.R h), fun y1 μ2 h2 => ?_⟩
  obtain ⟨e1, e2⟩ := h2
  cases e1
  subst e2
  -- at its end
  have fin : ∀ (q : Nat) (M : m2M), q ≤ p → (∀ i, q ≤ i → i < 12 → bzB ν p i = false) → frB μ M → M.1 kO 7 = nI (cnb (bzB ν p) q) → M.1 kO 10 = nI pl → M.1 kO 8 = -1 → M.1 kO 12 = 0 → M.1 kO 11 = nI (wdN ν p + bf_sum (fun i => if bzB ν p i = true then woN ν i else 0) q) → M.1 kO 14 = nI (bf_sum (muF ν n (bzB ν p)) q) → (∀ i, i < cnb (bzB ν p) q → M.1 kO_goers i = nI (rmN (bzB ν p) i)) → (∀ i, i < cnb (bzB ν p) q → M.1 kO_must i = nI (muN ν n (rmN (bzB ν p) i))) → frB μ M ∧ oC ν n p pl M ∧ M.1 kO 8 = -1 ∧ M.1 kO 11 = nI (hpN ν (bzB ν p) p) ∧ M.1 kO 12 = 0 ∧ M.1 kO 14 = nI (muS ν n (bzB ν p) p) := by
    intro q M hqp hz a1 a2 a3 a4 a5 a6 a7 a8 a9
    have ec : cnb (bzB ν p) 12 = cnb (bzB ν p) q := cnb_end (by omega) hz
    refine ⟨a1, ⟨by rw [ec]; exact a2, a3, by rw [ec]; exact a8, by rw [ec]; exact a9⟩, a4, ?_, a5, ?_⟩
    · rw [hpN_0 h, bf_sum_z hqp (fun i h1 h2 => by rw [hz i h1 (by omega)]; rfl)]
      exact a6
    · show _ = nI (bf_sum (muF ν n (bzB ν p)) p)
      rw [bf_sum_z hqp (fun i h1 h2 => by unfold muF; rw [hz i h1 (by omega)]; rfl)]
      exact a7
  refine dn (n := p) (G := fun q => ∀ M : m2M, frB μ M → M.1 kO 7 = nI (cnb (bzB ν p) q) → M.1 kO 10 = nI pl → M.1 kO 8 = -1 → M.1 kO 12 = 0 → M.1 kO 11 = nI (wdN ν p + bf_sum (fun i => if bzB ν p i = true then woN ν i else 0) q) → M.1 kO 14 = nI (bf_sum (muF ν n (bzB ν p)) q) → (∀ i, i < cnb (bzB ν p) q → M.1 kO_goers i = nI (rmN (bzB ν p) i)) → (∀ i, i < cnb (bzB ν p) q → M.1 kO_must i = nI (muN ν n (rmN (bzB ν p) i))) → κ 43 [.ref kO, .int (nI pl), .int (nI q)] [] M) (fun M a1 a2 a3 a4 a5 a6 a7 a8 a9 => ?_) (fun q hq ih M a1 a2 a3 a4 a5 a6 a7 a8 a9 => ?_) _ ?_ ?_ ?_ ?_ ?_ ?_ ?_ (fun i hi => absurd hi (Nat.not_lt_zero i)) (fun i hi => absurd hi (Nat.not_lt_zero i))
  · have e8 : M.1 kP 8 = nI p := (a1.j.R h).2.1.1
    refine B_X4_begin_43 hk (Nat.zero_le _) ⟨fun _ => fin p M (Nat.le_refl p) (fun i h1 _ => ?_) a1 a2 a3 a4 a5 a6 a7 a8 a9, fun w => absurd (by rw [e8]; exact nI_le (Nat.le_refl _) (by omega)) w⟩
    unfold bzB
    rw [decide_eq_false (by omega)]
    rfl
  · have hRM := a1.j.R h
    have e8 : M.1 kP 8 = nI p := hRM.2.1.1
    have hcq : cnb (bzB ν p) q ≤ cnb (bzB ν p) 12 := cnb_mn (by omega)
    refine B_X4_begin_43 hk (Nat.zero_le _) ⟨fun w => absurd (by rw [e8] at w; exact w) (nI_ge hq (by omega)), fun _ => ?_⟩
    rw [a2]
    refine pk_le 6 (cnb (bzB ν p) q) (fun z => ?_) (fun z => ⟨vp_in_nI (by omega) (by decide), ?_⟩) rfl rfl (by decide) (by omega)
    · refine fin q M (by omega) (fun i h1 h2 => ?_) a1 a2 a3 a4 a5 a6 a7 a8 a9
      cases e : bzB ν p i with
      | false => rfl
      | true =>
        have := cnb_in e h2
        have := cnb_mn (g := bzB ν p) h1
        omega
    · have hwo := hRM.wo hq
      have ewo : M.1 kP_worth q = nI (woN ν q) := (hRM.2.1.2.2.2 q hq).1.2.2.2.1.trans hwo.1
      have busy := hRM.busy hq
      refine ⟨fun w => ?_, fun w => ?_⟩
      · have hg := busy.mp w
        have hz : bzB ν p q = true := bzB_iff.mpr ⟨hq, hg⟩
        have hin := cnb_in hz (show q < 12 by omega)
        have hrm : rmN (bzB ν p) (cnb (bzB ν p) q) = q := rmN_at hz (by omega)
        refine ⟨vp_in_nI (by omega) (by decide), ?_⟩
        rw [nI_clamp (by omega), nI_clamp (by omega), ewo]
        have es : cnb (bzB ν p) (q + 1) = cnb (bzB ν p) q + 1 := by rw [cnb_s, if_pos hz]
        have nxt : ∀ (B : m2M) (x14 x11 x7 : Int32), frB μ B → (∀ j, B.1 kO j = M.1 kO j) → B.1 kO_goers = (m2_si M kO_goers (cnb (bzB ν p) q) (nI q)).1 kO_goers → B.1 kO_must = M.1 kO_must → x14 = nI (bf_sum (muF ν n (bzB ν p)) q + muN ν n q) → x11 = nI (wdN ν p + bf_sum (fun i => if bzB ν p i = true then woN ν i else 0) q + woN ν q) → x7 = nI (cnb (bzB ν p) q + 1) → κ 43 [.ref kO, .int (nI pl), .int (nI (q + 1))] [] (m2_si (m2_si (m2_si (m2_si B kO_must (cnb (bzB ν p) q) (nI (muN ν n q))) kO 14 x14) kO 11 x11) kO 7 x7) := by
          intro B x14 x11 x7 b1 b2 b3 b4 b5 b6 b7
          refine ih _ (fr_si rfl (fr_si rfl (fr_si rfl (fr_si rfl b1)))) ?_ ?_ ?_ ?_ ?_ ?_ (fun i hi => ?_) (fun i hi => ?_)
          · rw [si_at, b7, es]
          · rw [si_nj _ _ _ (by decide), si_nj _ _ _ (by decide), si_nj _ _ _ (by decide), si_nc _ _ _ (by decide), b2]; exact a3
          · rw [si_nj _ _ _ (by decide), si_nj _ _ _ (by decide), si_nj _ _ _ (by decide), si_nc _ _ _ (by decide), b2]; exact a4
          · rw [si_nj _ _ _ (by decide), si_nj _ _ _ (by decide), si_nj _ _ _ (by decide), si_nc _ _ _ (by decide), b2]; exact a5
          · rw [si_nj _ _ _ (by decide), si_at, b6]
            show nI _ = nI (wdN ν p + (bf_sum _ q + (if bzB ν p q = true then woN ν q else 0)))
            rw [if_pos hz, Nat.add_assoc]
          · rw [si_nj _ _ _ (by decide), si_nj _ _ _ (by decide), si_at, b5]
            show nI _ = nI (bf_sum _ q + (if bzB ν p q = true then muN ν n q else 0))
            rw [if_pos hz]
          · rw [si_nc _ _ _ (by decide), si_nc _ _ _ (by decide), si_nc _ _ _ (by decide), si_nc _ _ _ (by decide), b3]
            by_cases z : i = cnb (bzB ν p) q
            · rw [z, si_at, hrm]
            · rw [si_nj _ _ _ z]
              exact a8 i (by omega)
          · rw [si_nc _ _ _ (by decide), si_nc _ _ _ (by decide), si_nc _ _ _ (by decide)]
            by_cases z : i = cnb (bzB ν p) q
            · rw [z, si_at, hrm]
            · rw [si_nj _ _ _ z, b4]
              exact a9 i (by omega)
        rw [nI_1, nI_1]
        have hmu22 := muN_22 h hq (gN_err (by omega) hg).1
        refine ⟨fun y => ?_, fun y => ?_⟩
        · have hw0 : woN ν q = 0 := (nI_le0 (by omega)).mp y
          have mu0 : muN ν n q = 0 := by unfold muN; rw [if_pos hw0]
          have := nxt (m2_si M kO_goers (cnb (bzB ν p) q) (nI q)) (M.1 kO 14 + nI (muN ν n q)) (M.1 kO 11 + nI (woN ν q)) (nI (cnb (bzB ν p) q + 1)) (fr_si rfl a1) (fun j => by rw [si_nc _ _ _ (by decide)]) rfl (si_nc _ _ _ (by decide)) (by rw [a7, nI_add]) (by rw [a6, nI_add]) rfl
          rw [si_at]
          rw [mu0] at this
          exact this
        · have hw0 : ¬ woN ν q = 0 := fun z => y (by rw [z]; decide)
          have mu0 : muN ν n q = if ptR ν n q ν < 268435456 then ptR ν n q ν else 0 := by unfold muN; rw [if_neg hw0]
          have f1 : frB μ (m2_si M kO_goers (cnb (bzB ν p) q) (nI q)) := fr_si rfl a1
          refine ⟨_, S_fewestDoors (by omega) ν _ (f1.j.R h) hq hg, fun y14 μ15 h15 => ?_⟩
          obtain ⟨e14, r15⟩ := h15
          cases e14
          have k15 : ∀ j, μ15.1 kO j = M.1 kO j := fun j => by rw [(r15 kO rfl).1, si_nc _ _ _ (by decide)]
          have w15 : μ15.1 kP_worth q = nI (woN ν q) := by rw [(r15 kP_worth rfl).1, si_nc _ _ _ (by decide)]; exact ewo
          rw [k15 7, a2, nI_clamp (by omega)]
          refine ⟨vp_in_nI (by omega) (by decide), ?_⟩
          rw [si_at, k15 14, k15 11, w15, nI_1, ← mu0]
          exact nxt μ15 _ _ _ (f1.tr r15.b) k15 (r15 kO_goers rfl).1 (by rw [(r15 kO_must rfl).1, si_nc _ _ _ (by decide)]) (by rw [a7, nI_add]) (by rw [a6, nI_add]) rfl
      · have hz : bzB ν p q = false := by
          cases e : bzB ν p q with
          | false => rfl
          | true => exact absurd (busy.mpr (bzB_iff.mp e).2) w
        have es : cnb (bzB ν p) (q + 1) = cnb (bzB ν p) q := by rw [cnb_s, hz]; rfl
        rw [nI_1]
        refine ih M a1 (by rw [es]; exact a2) a3 a4 a5 ?_ ?_ (by rw [es]; exact a8) (by rw [es]; exact a9)
        · show _ = nI (wdN ν p + (bf_sum _ q + (if bzB ν p q = true then woN ν q else 0)))
          rw [hz]; exact a6
        · show _ = nI (bf_sum _ q + (if bzB ν p q = true then muN ν n q else 0))
          rw [hz]; exact a7
  · exact fr_si rfl (fr_si rfl (fr_si rfl (fr_si rfl (fr_si rfl f0))))
  · rw [si_nj _ _ _ (by decide), si_nj _ _ _ (by decide), si_nj _ _ _ (by decide), si_nj _ _ _ (by decide), si_nj _ _ _ (by decide), si_at]; rfl
  · rw [si_nj _ _ _ (by decide), si_nj _ _ _ (by decide), si_nj _ _ _ (by decide), si_nj _ _ _ (by decide), si_nj _ _ _ (by decide), si_nj _ _ _ (by decide), si_at]
  · rw [si_nj _ _ _ (by decide), si_at]
  · rw [si_nj _ _ _ (by decide), si_nj _ _ _ (by decide), si_nj _ _ _ (by decide), si_at]
  · rw [si_nj _ _ _ (by decide), si_nj _ _ _ (by decide), si_nj _ _ _ (by decide), si_nj _ _ _ (by decide), si_at]; rfl
  · rw [si_nj _ _ _ (by decide), si_nj _ _ _ (by decide), si_at]; rfl
