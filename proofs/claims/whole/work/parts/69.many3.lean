/-! many, bars, counts -/
theorem has_came {ν M : m2M} {R : Nat → Bool} (hx : ∀ x, x < 14 → (M.1 kM_cameFrom x = -1 ↔ R x = false)) {x : Nat} (h : x < 14) : (M.1 kM_cameFrom x = -1) ↔ ¬ R x = true := by
  rw [hx x h, Bool.not_eq_true]
set_option maxHeartbeats 1000000 in
theorem T_many {D : Nat} (hD : 4 ≤ D) (μ : m2M) (h : REL μ) (x1 x2 : Int32) : stp D yX11_many cX11_many 4 (some .int) yX12_many cX12_many 8 (some .int) [.int x1, .int x2] μ REL := by
  obtain ⟨D, rfl⟩ : ∃ E, D = E + 1 := ⟨D - 1, by omega⟩
  obtain ⟨n, p, hR⟩ := id h
  have hR : RLn μ μ n p := hR
  have hn := hR.n20
  by_cases hx : in_ 12 x1 ∧ in_ 12 x2 ∧ x1 ≠ x2
  case neg =>
    refine T_of (some (.int (-1))) μ ?_ (fun ν hv => ?_)
    · refine m2_MT.intro (ls := [.ref kC, .int x1, .int x2, .null]) (by decide +kernel) rfl (ble rfl) (fun κ hk => ?_)
      exact B_X11_many_0 hk (by omega) ⟨fun w => absurd (unlike_iff.mp w) hx, fun _ => ⟨rfl, hR.r, fr.rf⟩⟩
    · refine m2_MT.intro (ls := [.ref kM, .int x1, .int x2, .null, .null, .null, .null, .null]) (by decide +kernel) rfl (ble rfl) (fun κ hk => ?_)
      exact B_X12_many_0 hk (by omega) ⟨fun w => absurd (ends_iff.mp w) hx, fun _ => ⟨rfl, hv.thr, fr_si rfl fr.rf⟩⟩
  have hx0 := hx
  obtain ⟨⟨a, ha, rfl⟩, ⟨b, hb, rfl⟩, hne⟩ := hx
  have hab : a ≠ b := fun e => hne (by rw [e])
  let dc := dcut n (dA μ) (dB μ) (dT μ) (dL μ)
  let R := mR dc a b
  refine T_of (some (.int (nI (mV dc a b)))) (tlM μ [(bts (ouB (dA μ) (dB μ) (dT μ) (dL μ) R) n).toInt64]) ?_ (fun ν hv => ?_)
  · refine m2_MT.intro (ls := [.ref kC, .int (nI a), .int (nI b), .null]) (by decide +kernel) rfl (ble rfl) (fun κ hk => ?_)
    refine B_X11_many_0 hk (by omega) ⟨fun _ => ⟨_, S_load (by omega) μ μ hR, fun μ6 h6 => ?_⟩, fun w => absurd (unlike_iff.mpr hx0) w⟩
    obtain ⟨f6, a6, _⟩ := h6
    refine ⟨_, S_greatestW (by omega) μ6 a6 ha hb hab, fun y10 μ11 h11 => ?_⟩
    obtain ⟨f11, e11, _, k11⟩ := h11
    cases e11
    have fK : frK μ μ11 := f6.tr f11.k
    have a11 := f11.Aa a6
    have fC : fr (fun c => c == kC) μ11 (m2_si μ11 kC 3 0) := fr_si rfl fr.rf
    refine ⟨_, S_out (R := R) (by omega) _ (a11.keep fC (fun c h1 h2 => by
      show (c == 0) = false
      rw [beq_eq_false_iff_ne]
      omega)) k11, fun y15 μ16 h16 => ?_⟩
    obtain ⟨e15, e16⟩ := h16
    cases e15
    subst e16
    refine ⟨_, S_tellC _ _ rC.i (by decide), fun μ21 h21 => ⟨rfl, ?_, ?_⟩⟩
    · exact REL2.tell (fK.j.R hR).r h21.1 (twC.i.tr h21.2) (ble rfl)
    · exact h21.2.fr rfl rfl (twC.i.fr rfl rfl fK.j.2.c)
  · have hv' := hv.thr
    have f1 : frM ν (m2_si ν kM 22 0) := fr_si rfl fr.rf
    refine m2_MT.intro (ls := [.ref kM, .int (nI a), .int (nI b), .null, .null, .null, .null, .null]) (by decide +kernel) rfl (ble rfl) (fun κ hk => ?_)
    refine B_X12_many_0 hk (by omega) ⟨fun _ => ⟨_, S_manyWith (L := dL μ) (by omega) μ μ _ hR hv'.f (by omega) (by omega) hab (fun d hd => ⟨by have := (hR.dr hd).2.2.2.2.2.2.2; omega, by rw [if_neg (nI_ne_m1 (by omega)), Int32.add_zero]⟩), fun y5 μ6 h6 => ?_⟩, fun w => absurd (ends_iff.mpr hx0) w⟩
    obtain ⟨f6, e6, _, c6⟩ := h6
    cases e6
    have v6 := frGm_v f6 hv'
    have m6 : frM ν μ6 := f1.tr (frGm_m f6)
    refine dn (n := n) (G := fun i => κ 30 [.ref kM, .int (nI a), .int (nI b), .int (nI (mV dc a b)), .int (bts (ouB (dA μ) (dB μ) (dT μ) (dL μ) R) i), .int (nI i), .null, .null] [] μ6) ?_ (fun i hi ih => ?_)
    · refine B_X12_many_30 hk ⟨fun _ => ⟨_, S_tellM _ _ rM.i (by decide), fun μ4 h4 => ⟨rfl, ?_, ?_⟩⟩, fun w => absurd (by rw [v6.1 kM 0 rfl rfl, hR.1.2.1]; exact nI_le (Nat.le_refl _) (by omega)) w⟩
      · exact v6.tell h4.1 (twM.i.tr h4.2) (ble rfl)
      · exact h4.2.fr rfl rfl (twM.i.fr rfl rfl m6)
    · obtain ⟨z1, z2, z3, z4, z5, z6, z7, z8⟩ := hR.dr hi
      have el := nI_le0 (a := dL μ i) (by omega)
      have eo : μ.1 kM_isOneWay i = 0 ↔ dT μ i = true := ⟨fun e => decide_eq_true e, fun e => of_decide_eq_true e⟩
      have hca := has_came (ν := ν) c6 (x := dA μ i) (by omega)
      have hcb := has_came (ν := ν) c6 (x := dB μ i) (by omega)
      have n0 : ouB (dA μ) (dB μ) (dT μ) (dL μ) R i = false → κ 30 [.ref kM, .int (nI a), .int (nI b), .int (nI (mV dc a b)), .int (bts (ouB (dA μ) (dB μ) (dT μ) (dL μ) R) i ||| (0 : Int32)), .int (nI i + 1), .null, .null] [] μ6 := by
        intro e
        have := bts_s1 (c := True) (f := ouB (dA μ) (dB μ) (dT μ) (dL μ) R) (i := i) (by rw [e]; simp)
        rw [if_pos trivial] at this
        rw [this, nI_1]
        exact ih
      have n1 : ouB (dA μ) (dB μ) (dT μ) (dL μ) R i = true → κ 30 [.ref kM, .int (nI a), .int (nI b), .int (nI (mV dc a b)), .int (bts (ouB (dA μ) (dB μ) (dT μ) (dL μ) R) i ||| ((1 : Int32) <<< (nI i &&& 31))), .int (nI i + 1), .null, .null] [] μ6 := by
        intro e
        have := bts_s1 (c := False) (f := ouB (dA μ) (dB μ) (dT μ) (dL μ) R) (i := i) (by rw [e]; simp)
        rw [if_neg (fun e => e)] at this
        rw [this, nI_1]
        exact ih
      have k124 : ∀ v : Int32, (¬ v = 0 ↔ ((R (dA μ i) && !R (dB μ i)) || (dT μ i && (R (dB μ i) && !R (dA μ i)))) = true) → κ 124 [.ref kM, .int (nI a), .int (nI b), .int (nI (mV dc a b)), .int (bts (ouB (dA μ) (dB μ) (dT μ) (dL μ) R) i), .int (nI i), .int v, .null] [] μ6 := by
        intro v hvv
        refine B_X12_many_124 hk ⟨vp_in_nI (by omega) (by decide), ?_⟩
        rw [nI_clamp (by omega), v6.1 kM_left i rfl rfl, z7]
        refine ⟨fun w => n0 ?_, fun w => ⟨fun w2 => n1 ?_, fun w2 => n0 ?_⟩⟩
        · unfold ouB; rw [decide_eq_false (by have := el.mp w; omega)]; rfl
        · unfold ouB; rw [decide_eq_true (Nat.pos_of_ne_zero (fun e => w (el.mpr e))), hvv.mp w2]; rfl
        · unfold ouB
          cases e : ((R (dA μ i) && !R (dB μ i)) || (dT μ i && (R (dB μ i) && !R (dA μ i)))) with
          | false => rw [Bool.and_false]
          | true => exact absurd w2 (hvv.mpr e)
      have k75 : (R (dA μ i) && !R (dB μ i)) = false → κ 75 [.ref kM, .int (nI a), .int (nI b), .int (nI (mV dc a b)), .int (bts (ouB (dA μ) (dB μ) (dT μ) (dL μ) R) i), .int (nI i), .null, .null] [] μ6 := by
        intro e0
        refine B_X12_many_75 hk ⟨vp_in_nI (by omega) (by decide), ?_⟩
        rw [nI_clamp (by omega), v6.1 kM_left i rfl rfl, z7, v6.1 kM_doorA i rfl rfl, z1, v6.1 kM_doorB i rfl rfl, z3, v6.1 kM_isOneWay i rfl rfl, nI_clamp (by omega), nI_clamp (by omega), eo, hca, hcb, el]
        refine ⟨vp_in_nI (by omega) (by decide), fun w => k124 0 ?_, fun w => ⟨vp_in_nI (by omega) (by decide), fun w2 => k124 0 ?_, fun w2 => ⟨fun w3 => k124 0 ?_, fun w3 => ⟨fun w4 => n0 ?_, fun w4 => n1 ?_⟩⟩⟩⟩
        · have w : ¬ R (dB μ i) = true := w
          rw [e0]; simp [w]
        · have w2 : ¬ ¬ R (dA μ i) = true := w2
          rw [e0]; simp [Classical.not_not.mp w2]
        · rw [e0]; simp [w3]
        · unfold ouB; rw [w4]; rfl
        · have w : ¬ ¬ R (dB μ i) = true := w
          have w2 : ¬ R (dA μ i) = true := w2
          unfold ouB
          rw [decide_eq_true (by omega), e0, w3, Classical.not_not.mp w, (Bool.not_eq_true _).mp w2]; rfl
      refine B_X12_many_30 hk ⟨fun w => absurd (by rw [v6.1 kM 0 rfl rfl, hR.1.2.1] at w; exact w) (nI_ge hi (by omega)), fun _ => ⟨vp_in_nI (by omega) (by decide), ?_⟩⟩
      rw [nI_clamp (by omega), v6.1 kM_left i rfl rfl, z7, v6.1 kM_doorA i rfl rfl, z1, v6.1 kM_doorB i rfl rfl, z3, v6.1 kM_isOneWay i rfl rfl, nI_clamp (by omega), nI_clamp (by omega), eo, hca, hcb, el]
      refine ⟨vp_in_nI (by omega) (by decide), fun w => k75 ?_, fun w => ⟨vp_in_nI (by omega) (by decide), fun w2 => k75 ?_, fun w2 => ⟨fun _ => k124 1 ?_, fun w3 => absurd w2 w3⟩⟩⟩
      · have w : ¬ R (dA μ i) = true := w
        rw [(Bool.not_eq_true _).mp w]; rfl
      · have w2 : ¬ ¬ R (dB μ i) = true := w2
        rw [Classical.not_not.mp w2]; simp
      · have w : ¬ ¬ R (dA μ i) = true := w
        have w2 : ¬ R (dB μ i) = true := w2
        simp [Classical.not_not.mp w, w2]
