/-! never -/
theorem dcut_mul {m v : Nat} {A B : Nat → Nat} {T : Nat → Bool} (X : Nat → Bool) : dcut m A B T (fun _ => v) X = v * dcut m A B T (fun _ => 1) X := by
  have key : ∀ k, sumN (rcT A B T (fun _ => v) (fun _ => v) X) k = v * sumN (rcT A B T (fun _ => 1) (fun _ => 1) X) k := by
    intro k
    induction k with
    | zero => exact (Nat.mul_zero v).symm
    | succ k ih =>
      unfold sumN
      rw [ih, Nat.mul_add]
      have : rcT A B T (fun _ => v) (fun _ => v) X k = v * rcT A B T (fun _ => 1) (fun _ => 1) X k := by
        unfold rcT fwS
        dsimp only
        split
        · exact (Nat.mul_one v).symm
        · split
          · split
            · omega
            · omega
          · exact (Nat.mul_zero v).symm
      rw [this]
  exact key m
theorem mcP_mul {m v V frm to : Nat} {A B : Nat → Nat} {T : Nat → Bool} {R : Nat → Bool} (h : mcP (dcut m A B T (fun _ => v)) frm to V R) : V = v * mV (dcut m A B T (fun _ => 1)) frm to := by
  obtain ⟨h1, h2, h3, h4, h5⟩ := h
  rw [dcut_mul] at h3
  by_cases hv : v = 0
  · rw [hv, Nat.zero_mul] at h3 ⊢
    exact h3.symm
  · have hv : 0 < v := Nat.pos_of_ne_zero hv
    have : mcP (dcut m A B T (fun _ => 1)) frm to (dcut m A B T (fun _ => 1) R) R := by
      refine ⟨h1, h2, rfl, fun X q1 q2 => ?_, fun X q1 q2 q3 => ?_⟩
      · have := h4 X q1 q2
        rw [dcut_mul, ← h3] at this
        exact Nat.le_of_mul_le_mul_left this hv
      · exact h5 X q1 q2 (by rw [dcut_mul, q3, h3])
    rw [← (mcP_eq this).1, h3]
def nvR (k w : Nat) : Int32 := if k = 0 then 0 else if w = 0 then -2 else if 60 < (k + w - 1) / w then -2 else nI ((k + w - 1) / w)
theorem nvR_at {k w v : Nat} (h : k ≤ v * w) (hb : ∀ u, u < v → u * w < k) : v ≤ 60 → nvR k w = nI v := by
  intro hv
  unfold nvR
  by_cases z : k = 0
  · rw [if_pos z]
    have : v = 0 := by
      apply Classical.byContradiction
      intro e
      have := hb 0 (by omega)
      omega
    rw [this]
    rfl
  · rw [if_neg z]
    have hw : ¬ w = 0 := fun e => by rw [e, Nat.mul_zero] at h; omega
    rw [if_neg hw]
    obtain ⟨u, rfl⟩ : ∃ u, v = u + 1 := ⟨v - 1, by
      have : v ≠ 0 := fun e => by rw [e, Nat.zero_mul] at h; omega
      omega⟩
    have h1 := hb u (by omega)
    have e1 : (u + 1) * w = u * w + w := by rw [Nat.add_mul, Nat.one_mul]
    have e2 : (u + 1 + 1) * w = u * w + w + w := by rw [Nat.add_mul, Nat.one_mul, e1]
    have e : (k + w - 1) / w = u + 1 := Nat.div_eq_of_lt_le (by omega) (by omega)
    rw [e, if_neg (by omega)]
theorem nvR_no {k w : Nat} (hb : ∀ u, u < 61 → u * w < k) : nvR k w = -2 := by
  unfold nvR
  have h0 := hb 0 (by decide)
  rw [if_neg (by omega)]
  by_cases z : w = 0
  · rw [if_pos z]
  · rw [if_neg z]
    have h1 := hb 60 (by decide)
    have : 61 ≤ (k + w - 1) / w := (Nat.le_div_iff_mul_le (by omega)).mpr (by omega)
    rw [if_pos (by omega)]
set_option maxHeartbeats 1000000 in
theorem T_never {D : Nat} (hD : 4 ≤ D) (μ : m2M) (h : REL μ) (x1 x2 x3 : Int32) : stp D yX11_never cX11_never 6 (some .int) yX12_never cX12_never 6 (some .int) [.int x1, .int x2, .int x3] μ REL := by
  obtain ⟨D, rfl⟩ : ∃ E, D = E + 1 := ⟨D - 1, by omega⟩
  obtain ⟨n, p, hR⟩ := id h
  have hR : RLn μ μ n p := hR
  have hn := hR.n20
  by_cases hx : (in_ 12 x1 ∧ in_ 12 x2 ∧ x1 ≠ x2) ∧ (¬ x3 < 0 ∧ ¬ 99 < x3)
  case neg =>
    refine T_of (some (.int (-1))) μ ?_ (fun ν hv => ?_)
    · refine m2_MT.intro (ls := [.ref kC, .int x1, .int x2, .int x3, .null, .null]) (by decide +kernel) rfl (ble rfl) (fun κ hk => ?_)
      exact B_X11_never_0 hk (by omega) ⟨fun w => ⟨fun _ => ⟨rfl, hR.r, fr.rf⟩, fun w2 => ⟨fun w3 => absurd ⟨unlike_iff.mp w, w2, Int32.not_lt.mpr w3⟩ hx, fun _ => ⟨rfl, hR.r, fr.rf⟩⟩⟩, fun _ => ⟨rfl, hR.r, fr.rf⟩⟩
    · refine m2_MT.intro (ls := [.ref kM, .int x1, .int x2, .int x3, .null, .null]) (by decide +kernel) rfl (ble rfl) (fun κ hk => ?_)
      exact B_X12_never_0 hk (by omega) ⟨fun w => ⟨fun w2 => absurd ⟨ends_iff.mp w, fX12_in_iff.mp w2⟩ hx, fun _ => ⟨rfl, hv.thr, fr_si rfl fr.rf⟩⟩, fun _ => ⟨rfl, hv.thr, fr_si rfl fr.rf⟩⟩
  obtain ⟨hx0, hx3⟩ := id hx
  obtain ⟨⟨⟨a, ha, rfl⟩, ⟨b, hb, rfl⟩, hne⟩, _⟩ := hx
  have hab : a ≠ b := fun e => hne (by rw [e])
  obtain ⟨k, hk0, rfl⟩ := (in_k (x := x3) (k := 99) (by decide)).mp (fX12_in_iff.mpr hx3)
  let w := mV (dcut n (dA μ) (dB μ) (dT μ) (fun _ => 1)) a b
  refine T_of (some (.int (nvR k w))) μ ?_ (fun ν hv => ?_)
  · refine m2_MT.intro (ls := [.ref kC, .int (nI a), .int (nI b), .int (nI k), .null, .null]) (by decide +kernel) rfl (ble rfl) (fun κ hk => ?_)
    refine B_X11_never_0 hk (by omega) ⟨fun _ => ⟨fun w => absurd w hx3.1, fun _ => ⟨fun _ => ⟨fun w0 => ⟨_, S_load (by omega) μ μ hR, fun μ6 h6 => ?_⟩, fun w0 => ?_⟩, fun w => absurd (Int32.not_lt.mp hx3.2) w⟩⟩, fun w => absurd (unlike_iff.mpr hx0) w⟩
    · have hk1 : k ≠ 0 := fun e => w0 (by rw [e]; rfl)
      obtain ⟨f6, a6, _⟩ := h6
      refine ⟨_, S_fill sh_kF_lets (by decide) 1 μ6, fun μ14 h14 => ?_⟩
      have a14 : fwA μ14 n (dA μ) (dB μ) (dT μ) (fun _ => 1) := by
        obtain ⟨q1, q2, q3⟩ := a6
        rw [h14]
        refine ⟨q1, q2, fun d hd => ?_⟩
        rw [m2_sr_ne _ _ (by decide : kF_a ≠ kF_lets), m2_sr_ne _ _ (by decide : kF_b ≠ kF_lets), m2_sr_ne _ _ (by decide : kF_oneWay ≠ kF_lets), m2_sr_same]
        obtain ⟨a1, a2, a3, a4, a5, a6, a7, a8⟩ := q3 d hd
        exact ⟨a1, a2, a3, a4, a5, a6, if_pos (by omega), show 1 ≤ 61 by decide⟩
      have f14 : frK μ μ14 := by
        rw [h14]
        exact fr_sr rfl f6
      refine ⟨_, S_greatestW (by omega) μ14 a14 ha hb hab, fun y18 μ19 h19 => ?_⟩
      obtain ⟨f19, e19, l19, _⟩ := h19
      cases e19
      have eW : mV (dcut n (dA μ) (dB μ) (dT μ) (fun _ => 1)) a b = w := rfl
      rw [eW] at l19 ⊢
      have fK : frK μ μ19 := f14.tr f19.k
      refine pk_lt 0 w (fun z => ?_) (fun z => ?_) rfl rfl (by decide) (by omega)
      · refine ⟨fun e => absurd ((nI_eq (b := 0) (by omega) (by decide)).mp e) (by omega), ?_, (fK.j.R hR).r, fK.j.2.c⟩
        rw [nI_add, show (1 : Int32) = nI 1 from rfl, pk_sub (by omega), pk_div (by omega) z (by omega)]
        unfold nvR
        rw [if_neg hk1, if_neg (show ¬ w = 0 by omega)]
        have hle : (k + w - 1) / w ≤ k + w - 1 := Nat.div_le_self _ _
        by_cases z2 : 60 < (k + w - 1) / w
        · rw [if_pos z2, if_pos (show (60 : Int32) < _ from nI_lt (a := 60) z2 (by omega))]
        · rw [if_neg z2, if_neg (show ¬ (60 : Int32) < _ from fun q => absurd (nI_le (a := (k + w - 1) / w) (b := 60) (by omega) (by decide)) (Int32.not_le.mpr q))]
      · refine ⟨?_, (fK.j.R hR).r, fK.j.2.c⟩
        unfold nvR
        rw [if_neg hk1, if_pos (by omega)]
    · have hk1 : k = 0 := (nI_eq (b := 0) (by omega) (by decide)).mp w0
      refine ⟨?_, hR.r, fr.rf⟩
      unfold nvR
      rw [if_pos hk1]
  · have hv' := hv.thr
    have f1 : frM ν (m2_si ν kM 22 0) := fr_si rfl fr.rf
    refine m2_MT.intro (ls := [.ref kM, .int (nI a), .int (nI b), .int (nI k), .null, .null]) (by decide +kernel) rfl (ble rfl) (fun κ hk => ?_)
    refine B_X12_never_0 hk (by omega) ⟨fun _ => ⟨fun _ => ?_, fun w => absurd (fX12_in_iff.mpr hx3) w⟩, fun w => absurd (ends_iff.mpr hx0) w⟩
    refine dn (n := 61) (G := fun v => ∀ M, fr isGm (m2_si ν kM 22 0) M → (∀ u, u < v → u * w < k) → κ 28 [.ref kM, .int (nI a), .int (nI b), .int (nI k), .int (nI v), .null] [] M) (fun M hM hu => ?_) (fun v hvv ih M hM hu => ?_) _ fr.rf (fun u hu => absurd hu (Nat.not_lt_zero u))
    · refine B_X12_never_28 hk ⟨fun _ => ⟨?_, frGm_v hM hv', f1.tr (frGm_m hM)⟩, fun q => absurd (nI_lt (a := 60) (b := 61) (by decide) (by decide)) q⟩
      rw [nvR_no hu]
    · refine B_X12_never_28 hk ⟨fun q => absurd (nI_le (a := v) (b := 60) (by omega) (by decide)) (Int32.not_le.mpr q), fun _ => ⟨_, S_clearFlow _, fun μ3 h3 => ?_⟩⟩
      refine dn (n := n) (G := fun i => ∀ M', fr isGm (m2_si ν kM 22 0) M' → lyS μ (fun _ => v) i M' → κ 42 [.ref kM, .int (nI a), .int (nI b), .int (nI k), .int (nI v), .int (nI i)] [] M') (fun M' hM' hL => ?_) (fun i hi ih' M' hM' hL => ?_) μ3 (hM.tr h3.1) (lyS_0 h3.2)
      · have vv := frGm_v hM' hv'
        obtain ⟨c, c1, c2, c3⟩ := hL
        have ck : ckM c := fun r s hr hs => by
          have := c2 (14 * r + s) (by omega)
          have := c2 (14 * s + r) (by omega)
          omega
        refine B_X12_never_42 hk ⟨fun _ => ⟨_, S_flow (by omega) M' c1 ck (show a < 14 by omega) (show b < 14 by omega) hab, fun y2 μ4 h4 => ?_⟩, fun q => absurd (by rw [vv.1 kM 0 rfl rfl, hR.1.2.1]; exact nI_le (Nat.le_refl _) (by omega)) q⟩
        obtain ⟨f4, V, R, e4, l4, m4, _⟩ := h4
        cases e4
        have ecut : cutC c = dcut n (dA μ) (dB μ) (dT μ) (fun _ => v) := funext c3
        rw [ecut] at m4
        have eV := mcP_mul m4
        have eV : V = v * w := eV
        have fr4 := hM'.tr f4
        refine pk_lt V k (fun z => ?_) (fun z => ?_) rfl rfl (by omega) (by omega)
        · rw [nI_1]
          refine ih μ4 fr4 (fun u hu' => ?_)
          by_cases e : u = v
          · rw [e]; omega
          · exact hu u (by omega)
        · refine ⟨?_, frGm_v fr4 hv', f1.tr (frGm_m fr4)⟩
          rw [nvR_at (v := v) (by omega) hu (by omega)]
      · have vv := frGm_v hM' hv'
        refine B_X12_never_42 hk ⟨fun q => absurd (by rw [vv.1 kM 0 rfl rfl, hR.1.2.1] at q; exact q) (nI_ge hi (by omega)), fun _ => ?_⟩
        rw [nI_1]
        exact ⟨_, S_layDoor (L := fun _ => v) μ μ M' hR vv.f hi (show v ≤ 61 by omega) rfl hL, fun μ12 h12 => ih' μ12 (hM'.tr h12.1) h12.2⟩
