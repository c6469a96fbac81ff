/-! more -/
def bsA (S : Nat → Nat) : Nat → Nat
  | 0 => 0
  | i + 1 => if S i ≤ S (bsA S i) then bsA S i else i
theorem bsA_lt (S : Nat → Nat) : ∀ i, 0 < i → bsA S i < i
  | 0, h => absurd h (Nat.lt_irrefl 0)
  | i + 1, _ => by
    unfold bsA
    split
    · by_cases e : i = 0
      · subst e; exact Nat.zero_lt_one
      · have := bsA_lt S i (by omega)
        omega
    · omega
set_option maxHeartbeats 1000000 in
theorem T_more {D : Nat} (hD : 5 ≤ D) (μ : m2M) (h : REL μ) (x1 : Int32) : stp D yX11_more cX11_more 5 (some .int) yX12_more cX12_more 6 (some .int) [.int x1] μ REL := by
  obtain ⟨D, rfl⟩ : ∃ E, D = E + 1 := ⟨D - 1, by omega⟩
  obtain ⟨n, p, hR⟩ := id h
  have hR : RLn μ μ n p := hR
  have hn := hR.n20
  by_cases hx : ¬ x1 < 2 ∧ ¬ 12 < x1
  case neg =>
    refine T_of (some (.int (-1))) μ ?_ (fun ν hv => ?_)
    · refine m2_MT.intro (ls := [.ref kC, .int x1, .null, .null, .null]) (by decide +kernel) rfl (ble rfl) (fun κ hk => ?_)
      exact B_X11_more_0 hk ⟨fun _ => ⟨rfl, hR.r, fr.rf⟩, fun w => ⟨fun w2 => absurd ⟨w, Int32.not_lt.mpr w2⟩ hx, fun _ => ⟨rfl, hR.r, fr.rf⟩⟩⟩
    · refine m2_MT.intro (ls := [.ref kM, .int x1, .null, .null, .null, .null]) (by decide +kernel) rfl (ble rfl) (fun κ hk => ?_)
      exact B_X12_more_0 hk (by omega) ⟨fun w => absurd (fX12_in_iff.mp w) hx, fun _ => ⟨rfl, hv.thr, fr_si rfl fr.rf⟩⟩
  obtain ⟨N, hN1, hN2, rfl⟩ := rng_of (lo := 2) (hi := 12) hx.1 hx.2 (by decide) (by decide) (by decide)
  by_cases h0 : n = 0
  · subst h0
    refine T_of (some (.int (-2))) μ ?_ (fun ν hv => ?_)
    · refine m2_MT.intro (ls := [.ref kC, .int (nI N), .null, .null, .null]) (by decide +kernel) rfl (ble rfl) (fun κ hk => ?_)
      exact B_X11_more_0 hk ⟨fun w => absurd w hx.1, fun _ => ⟨fun _ => ⟨fun w => absurd hR.1.1 w, fun _ => ⟨rfl, hR.r, fr.rf⟩⟩, fun w => absurd (Int32.not_lt.mp hx.2) w⟩⟩
    · refine m2_MT.intro (ls := [.ref kM, .int (nI N), .null, .null, .null, .null]) (by decide +kernel) rfl (ble rfl) (fun κ hk => ?_)
      have e0 : ν.1 kM 0 = nI 0 := (hv.1 kM 0 rfl rfl).trans hR.1.2.1
      exact B_X12_more_0 hk (by omega) ⟨fun _ => ⟨fun w => absurd e0 w, fun _ => ⟨rfl, hv.thr, fr_si rfl fr.rf⟩⟩, fun w => absurd (fX12_in_iff.mpr hx) w⟩
  let S0 := totS (mrW n (dA μ) (dB μ) (dT μ) (dL μ)) N N
  let S : Nat → Nat := fun d => totS (mrW n (dA μ) (dB μ) (dT μ) (up1 (dL μ) d)) N N
  let b := bsA S n
  have hb : b < n := bsA_lt S n (by omega)
  refine T_of (some (.int (nI b))) (tlM μ [(nI (S b)).toInt64, (nI S0).toInt64]) ?_ (fun ν hv => ?_)
  · refine m2_MT.intro (ls := [.ref kC, .int (nI N), .null, .null, .null]) (by decide +kernel) rfl (ble rfl) (fun κ hk => ?_)
    refine B_X11_more_0 hk ⟨fun w => absurd w hx.1, fun _ => ⟨fun _ => ⟨fun _ => ⟨_, S_load (by omega) μ μ hR, fun μ5 h5 => ?_⟩, fun w => absurd ((nI_eq (b := 0) (by omega) (by decide)).mp (hR.1.1.symm.trans w)) h0⟩, fun w => absurd (Int32.not_lt.mp hx.2) w⟩⟩
    obtain ⟨f5, a5, _⟩ := h5
    refine ⟨_, S_sumPairs (by omega) μ5 a5 hn hN2, fun y9 μ10 h10 => ?_⟩
    obtain ⟨f10, e10, g10⟩ := h10
    cases e10
    have fK : frK μ μ10 := f5.tr f10
    have g10 : ∀ d, d < n → ∃ g, g ≤ 144 ∧ μ10.1 kF_gain d = nI g ∧ g + S0 = S d := g10
    have main : ∀ (f i : Nat), i + f = n → 0 < i → κ 51 [.ref kC, .int (nI N), .int (nI S0), .int (nI (bsA S i)), .int (nI i)] [] μ10 := by
      intro f
      induction f with
      | zero =>
        intro i hi hp
        have e : i = n := by omega
        subst e
        refine B_X11_more_51 hk ⟨fun _ => ⟨vp_in_nI (show b < 20 by omega) (by decide), ?_⟩, fun w => absurd (by rw [(fK kD rfl).1, hR.1.1]; exact nI_le (Nat.le_refl _) (by omega)) w⟩
        obtain ⟨g, g1, g2, g3⟩ := g10 b hb
        rw [nI_clamp (show b < 2 ^ 31 by omega), g2, nI_add, show S0 + g = S b by omega]
        refine ⟨_, S_tellC _ _ rC.i (by decide), fun μ14 h14 => ⟨_, S_tellC _ _ h14.1 (ble rfl), fun μ19 h19 => ⟨rfl, ?_, ?_⟩⟩⟩
        · exact REL2.tell (fK.j.R hR).r h19.1 ((twC.i.tr h14.2).tr h19.2) (ble rfl)
        · exact h19.2.fr rfl rfl (h14.2.fr rfl rfl (twC.i.fr rfl rfl fK.j.2.c))
      | succ f ih =>
        intro i hi hp
        have hbi := bsA_lt S i hp
        refine B_X11_more_51 hk ⟨fun w => absurd (by rw [(fK kD rfl).1, hR.1.1] at w; exact w) (nI_ge (by omega) (by omega)), fun _ => ⟨vp_in_nI (by omega) (by decide), vp_in_nI (by omega) (by decide), ?_⟩⟩
        obtain ⟨g, g1, g2, g3⟩ := g10 i (by omega)
        obtain ⟨g', g1', g2', g3'⟩ := g10 (bsA S i) (by omega)
        rw [nI_clamp (by omega), nI_clamp (by omega), g2, g2', nI_1]
        have nx := ih (i + 1) (by omega) (by omega)
        unfold bsA at nx
        by_cases z : S i ≤ S (bsA S i)
        · rw [if_pos z] at nx
          rw [if_pos (nI_le (show g ≤ g' by omega) (by omega))]
          exact nx
        · rw [if_neg z] at nx
          rw [if_neg (nI_ge (show g' < g by omega) (by omega))]
          exact nx
    have e1 : bsA S 1 = 0 := if_pos (Nat.le_refl _)
    have := main (n - 1) 1 (by omega) (by decide)
    rw [e1] at this
    exact this
  · have hv' := hv.thr
    have f1 : frM ν (m2_si ν kM 22 0) := fr_si rfl fr.rf
    refine m2_MT.intro (ls := [.ref kM, .int (nI N), .null, .null, .null, .null]) (by decide +kernel) rfl (ble rfl) (fun κ hk => ?_)
    have e0 : ν.1 kM 0 = nI n := (hv.1 kM 0 rfl rfl).trans hR.1.2.1
    refine B_X12_more_0 hk (by omega) ⟨fun _ => ⟨fun _ => ?_, fun w => absurd ((nI_eq (b := 0) (by omega) (by decide)).mp (e0.symm.trans w)) h0⟩, fun w => absurd (fX12_in_iff.mpr hx) w⟩
    have hup : ∀ d, d < n → ∀ e, e < n → up1 (dL μ) d e ≤ 61 ∧ nI (dL μ e) + (if nI e = nI d then 1 else 0) = nI (up1 (dL μ) d e) := by
      intro d hd e he
      have ze := hR.dr he
      unfold up1
      by_cases z : e = d
      · subst z
        rw [if_pos rfl, updN_at]
        exact ⟨by omega, nI_1 _⟩
      · rw [if_neg (fun w => z ((nI_eq (by omega) (by omega)).mp w)), Int32.add_zero, updN_ne z]
        exact ⟨by omega, rfl⟩
    let cd : Nat → Int32 × Int32 := fun i => if i = 0 then (-1, 0) else (nI (bsA S i), nI (S (bsA S i)))
    refine dn (n := n) (G := fun i => ∀ M, fr isGm (m2_si ν kM 22 0) M → (∀ d, d < i → S d ≤ 784000 * 144) → κ 34 [.ref kM, .int (nI N), .int (cd i).1, .int (cd i).2, .int (nI i), .null] [] M) (fun M hM hS => ?_) (fun i hi ih M hM hS => ?_) _ fr.rf (fun d hd => absurd hd (Nat.not_lt_zero d))
    · have vv := frGm_v hM hv'
      have mM : frM ν M := f1.tr (frGm_m hM)
      have ec : cd n = (nI b, nI (S b)) := if_neg h0
      rw [ec]
      refine B_X12_more_34 hk ⟨fun _ => ⟨_, S_tellM _ _ rM.i (by decide), fun μ3 h3 => ?_⟩, fun w => absurd (by rw [vv.1 kM 0 rfl rfl, hR.1.2.1]; exact nI_le (Nat.le_refl _) (by omega)) w⟩
      have vF3 : vF μ μ3 := h3.2.f (twM.i.f vv.f)
      refine ⟨_, S_sumPairsM (L := dL μ) (by omega) μ μ μ3 hR vF3 hN2 (fun d hd => ⟨by have := (hR.dr hd).2.2.2.2.2.2.2; omega, by rw [if_neg (nI_ne_m1 (by omega)), Int32.add_zero]⟩), fun y7 μ8 h8 => ?_⟩
      obtain ⟨f8, e8, _⟩ := h8
      cases e8
      have t8 : rM ([] ++ [(nI (S b)).toInt64]) μ8 := by
        refine ⟨?_, fun i hi => ?_⟩
        · rw [(f8 kM rfl).1]; exact h3.1.1
        · rw [(f8 kM_row rfl).2]; exact h3.1.2 i hi
      refine ⟨_, S_tellM _ _ t8 (ble rfl), fun μ13 h13 => ⟨rfl, ?_, ?_⟩⟩
      · exact (h13.2.f (frGm_f f8 vF3)).tell h13.1 (ble rfl)
      · exact h13.2.fr rfl rfl ((h3.2.fr rfl rfl (twM.i.fr rfl rfl mM)).tr (frGm_m f8))
    · have vv := frGm_v hM hv'
      refine B_X12_more_34 hk ⟨fun w => absurd (by rw [vv.1 kM 0 rfl rfl, hR.1.2.1] at w; exact w) (nI_ge hi (by omega)), fun _ => ⟨_, S_sumPairsM (L := up1 (dL μ) i) (by omega) μ μ M hR vv.f hN2 (hup i hi), fun y17 μ18 h18 => ?_⟩⟩
      obtain ⟨f18, e18, l18⟩ := h18
      cases e18
      have l18 : S i ≤ 784000 * 144 := l18
      have nx := ih μ18 (hM.tr f18) (fun d hd => by
        by_cases e : d = i
        · rw [e]; exact l18
        · exact hS d (by omega))
      have ec1 : cd (i + 1) = (nI (bsA S (i + 1)), nI (S (bsA S (i + 1)))) := if_neg (by omega)
      rw [ec1] at nx
      rw [nI_1]
      show ((cd i).1 = -1 → κ 34 [.ref kM, .int (nI N), .int (nI i), .int (nI (S i)), .int (nI (i + 1)), .null] [] μ18) ∧ (¬ (cd i).1 = -1 → ((cd i).2 < nI (S i) → κ 34 [.ref kM, .int (nI N), .int (nI i), .int (nI (S i)), .int (nI (i + 1)), .null] [] μ18) ∧ (¬ (cd i).2 < nI (S i) → κ 34 [.ref kM, .int (nI N), .int (cd i).1, .int (cd i).2, .int (nI (i + 1)), .null] [] μ18))
      by_cases z0 : i = 0
      · subst z0
        have ec : cd 0 = (-1, 0) := rfl
        have eb : bsA S (0 + 1) = 0 := if_pos (Nat.le_refl _)
        rw [eb] at nx
        rw [ec]
        exact ⟨fun _ => nx, fun w => absurd rfl w⟩
      · have ec : cd i = (nI (bsA S i), nI (S (bsA S i))) := if_neg z0
        have hbi := bsA_lt S i (by omega)
        have hSb := hS (bsA S i) hbi
        rw [ec]
        refine ⟨fun w => absurd w (show ¬ nI (bsA S i) = -1 from nI_ne_m1 (by omega)), fun _ => ?_⟩
        refine pk_lt (S (bsA S i)) (S i) (fun z => ?_) (fun z => ?_) rfl rfl (by omega) (by omega)
        · have eb : bsA S (i + 1) = i := if_neg (by omega)
          rw [eb] at nx
          exact nx
        · have eb : bsA S (i + 1) = bsA S i := if_pos z
          rw [eb] at nx
          exact nx
