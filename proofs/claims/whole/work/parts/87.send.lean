/-! send -/
theorem bits12z {x : Int32} (h0 : ¬ x < 0) (h2 : ¬ 4095 < x) : x = bts (fun j => x.toBitVec.getLsbD j) 12 := by
  by_cases h1 : x < 1
  · have : x = 0 := by
      obtain ⟨a, ha, rfl⟩ := nI_of h0
      have : ¬ 1 ≤ a := fun w => absurd h1 (Int32.not_lt.mpr (nI_le (a := 1) w ha))
      have : a = 0 := by omega
      rw [this]
      rfl
    rw [this]
    decide +kernel
  · exact bits12 h1 h2
theorem few_iff {x : Int32} : fX9_areFew x = 1 ↔ (¬ x < 0 ∧ ¬ 4095 < x) ∧ ¬ 6 < fJ6_bitCount_0f7a4 x := by
  unfold fX9_areFew
  by_cases h1 : x < 0 <;> by_cases h2 : 4095 < x <;> by_cases h3 : 6 < fJ6_bitCount_0f7a4 x <;> simp [h1, h2, h3]
theorem six_iff {x : Int32} : fX12_areSix x = 1 ↔ (¬ x < 0 ∧ ¬ 4095 < x) ∧ ¬ 6 < fJ6_bitCount_0f7a4 x := by
  unfold fX12_areSix
  by_cases h1 : fX12_in x 0 4095 = 1
  · rw [if_pos h1]
    have := fX12_in_iff.mp h1
    by_cases h3 : 6 < fJ6_bitCount_0f7a4 x <;> simp [h3, this]
  · rw [if_neg h1]
    have : ¬ (¬ x < 0 ∧ ¬ 4095 < x) := fun q => h1 (fX12_in_iff.mpr q)
    exact ⟨fun q => absurd q (by decide), fun q => absurd q.1 this⟩
theorem few_g {x : Int32} (h : (¬ x < 0 ∧ ¬ 4095 < x) ∧ ¬ 6 < fJ6_bitCount_0f7a4 x) : ∃ g : Nat → Bool, x = bts g 12 ∧ cnb g 12 ≤ 6 := by
  have e := bits12z h.1.1 h.1.2
  refine ⟨_, e, ?_⟩
  apply Classical.byContradiction
  intro w
  apply h.2
  rw [e, bitC (by decide)]
  have := cnb_le (fun j => x.toBitVec.getLsbD j) 12
  exact nI_lt (a := 6) (by omega) (by omega)
theorem shf_0 (c : tB) : shf 0 [] c = c := by
  cases c with
  | none => rfl
  | some q =>
    show some (0 + q.1, [] ++ q.2) = some q
    rw [Nat.zero_add]
    rfl
theorem sv_full {g : Nat → Bool} : ∀ r, r < 12 → svB g (2 ^ cnb g 12 - 1) r = g r := by
  intro r hr
  unfold svB
  cases e : g r with
  | false => rfl
  | true =>
    rw [Nat.testBit_two_pow_sub_one, decide_eq_true (cnb_in e hr)]
    rfl
theorem tvT_full {ν : m2M} {n : Nat} {g : Nat → Bool} {room : Nat} : tvT ν n (svB g (2 ^ cnb g 12 - 1)) room = tvT ν n g room := by
  show tvS (dO ν n) (cnb (svB g (2 ^ cnb g 12 - 1)) 12) _ _ = tvS (dO ν n) (cnb g 12) _ _
  rw [cnb_congr (sv_full (g := g))]
  exact tvS_congr sv_full
def toI (o : tB) : Int32 := match o with
  | none => -1
  | some q => nI q.1
def ppR (ν : m2M) (n : Nat) (g : Nat → Bool) (M : m2M) : Prop := ∀ u i, u < 2 ^ cnb g 12 → i < cnb g 12 → M.1 (kRest u) i = nI (fvN ν n g u (rmN g i))
theorem S_fewestFrom {D n p room : Nat} {g : Nat → Bool} (hD : 2 ≤ D) (ν μ : m2M) (h : RLn ν μ n p) (hm : cnb g 12 ≤ 6) (hP : ppT ν n g (cnb g 12) μ) (hr : ppR ν n g μ) (hroom : room < 12) : m2_MT D yX9_fewestFrom cX9_fewestFrom 3 (some .int) [.ref kT, .int (nI room)] μ (fun r μ' => r = some (.int (toI (tvT ν n g room))) ∧ μ' = μ) := by
  obtain ⟨D, rfl⟩ : ∃ E, D = E + 1 := ⟨D - 1, by omega⟩
  have hpos : 0 < 2 ^ cnb g 12 := Nat.pow_pos (by decide)
  have hp2 := p2_le hm
  refine m2_MT.intro (ls := [.ref kT, .int (nI room), .null]) (by decide +kernel) rfl (ble rfl) (fun κ hk => ?_)
  refine B_X9_fewestFrom_0 hk ?_
  rw [hP.1, p2_int _ (by omega), show (1 : Int32) = nI 1 from rfl, pk_sub (by omega)]
  refine ⟨_, S_farFrom (g := g) (by omega) μ h hm hP.1 (by omega) hroom hP.2.2 (fun u i hu hi => hr u i (by omega) hi), fun y1 μ2 h2 => ?_⟩
  obtain ⟨e1, e2⟩ := h2
  cases e1
  refine ⟨?_, e2⟩
  have ef : fvN ν n g (2 ^ cnb g 12 - 1) room = vlB (tvT ν n g room) := by
    unfold fvN
    rw [tvT_full]
  rw [ef]
  rcases e : tvT ν n g room with _ | q
  · rfl
  · have hq := (tvS_le h hroom e).1
    have : ¬ (268435456 : Int32) ≤ nI q.1 := nI_ge (a := q.1) (b := 268435456) (by omega) (by decide)
    show some (Value.int (if (268435456 : Int32) ≤ nI q.1 then -1 else nI q.1)) = some (.int (nI q.1))
    rw [if_neg this]
def snF (o : Nat → tB) : Nat → Option (Nat × Nat)
  | 0 => none
  | q + 1 => match o q with
    | none => snF o q
    | some x => match snF o q with
      | none => some (q, x.1)
      | some b => if x.1 < b.2 then some (q, x.1) else some b
theorem snF_lt {o : Nat → tB} {N : Nat} : ∀ {q : Nat} {b : Nat × Nat}, (∀ j x, j < q → o j = some x → x.1 ≤ N) → snF o q = some b → b.1 < q ∧ b.2 ≤ N
  | 0, b, _, h => by cases h
  | q + 1, b, hN, h => by
    unfold snF at h
    rcases e : o q with _ | x
    · simp only [e] at h
      obtain ⟨a1, a2⟩ := snF_lt (fun j x hj => hN j x (by omega)) h
      exact ⟨by omega, a2⟩
    · simp only [e] at h
      have hx := hN q x (by omega) e
      rcases e2 : snF o q with _ | b0
      · simp only [e2] at h
        cases h
        exact ⟨by show q < q + 1; omega, hx⟩
      · simp only [e2] at h
        obtain ⟨a1, a2⟩ := snF_lt (fun j x hj => hN j x (by omega)) e2
        by_cases z : x.1 < b0.2
        · rw [if_pos z] at h
          cases h
          exact ⟨by show q < q + 1; omega, hx⟩
        · rw [if_neg z] at h
          cases h
          exact ⟨by omega, a2⟩
set_option maxHeartbeats 1000000 in
theorem T_send {D : Nat} (hD : 11 ≤ D) (μ : m2M) (h : REL μ) (x1 : Int32) : stp D yX11_send cX11_send 6 (some .int) yX12_send cX12_send 5 (some .int) [.int x1] μ REL := by
  obtain ⟨D, rfl⟩ : ∃ E, D = E + 1 := ⟨D - 1, by omega⟩
  obtain ⟨n, p, hR⟩ := id h
  have hR : RLn μ μ n p := hR
  have hp := hR.p8
  by_cases hx : ((¬ x1 < 0 ∧ ¬ 4095 < x1) ∧ ¬ 6 < fJ6_bitCount_0f7a4 x1) ∧ p ≠ 0
  case neg =>
    refine T_of (some (.int (-1))) μ ?_ (fun ν hv => ?_)
    · refine m2_MT.intro (ls := [.ref kC, .int x1, .null, .null, .null, .null]) (by decide +kernel) rfl (ble rfl) (fun κ hk => ?_)
      exact B_X11_send_0 hk (by omega) ⟨fun _ => ⟨rfl, hR.r, fr.rf⟩, fun w => ⟨fun w2 => absurd ⟨few_iff.mp w2, fun e => w (by rw [hR.2.1.1, e]; rfl)⟩ hx, fun _ => ⟨rfl, hR.r, fr.rf⟩⟩⟩
    · refine m2_MT.intro (ls := [.ref kM, .int x1, .null, .null, .null]) (by decide +kernel) rfl (ble rfl) (fun κ hk => ?_)
      have e7 : ν.1 kM 7 = nI p := (hv.1 kM 7 rfl rfl).trans hR.2.1.2.1
      exact B_X12_send_0 hk (by omega) ⟨fun w => ⟨fun w2 => absurd ⟨six_iff.mp w, fun e => w2 (by rw [e7, e]; rfl)⟩ hx, fun _ => ⟨rfl, hv.thr, fr_si rfl fr.rf⟩⟩, fun _ => ⟨rfl, hv.thr, fr_si rfl fr.rf⟩⟩
  obtain ⟨hx0, hp0⟩ := hx
  have w9 := few_iff.mpr hx0
  have w12 := six_iff.mpr hx0
  obtain ⟨g, rfl, hm⟩ := few_g hx0
  let o : Nat → tB := fun q => tvT μ n g (hW μ q)
  have ho : ∀ j x, j < p → o j = some x → x.1 ≤ 66 := fun j x hj e => by
    have := (tvS_le hR (hR.hw j hj).2 e).1
    omega
  let R : Option Value × m2M := match snF o p with
    | none => (some (.int (-2)), μ)
    | some b => (some (.int (nI b.1)), tlM μ [(nI b.2).toInt64])
  refine T_of R.1 R.2 ?_ (fun ν hv => ?_)
  · refine m2_MT.intro (ls := [.ref kC, .int (bts g 12), .null, .null, .null, .null]) (by decide +kernel) rfl (ble rfl) (fun κ hk => ?_)
    refine B_X11_send_0 hk (by omega) ⟨fun w => absurd ((nI_eq (b := 0) (by omega) (by decide)).mp (hR.2.1.1.symm.trans w)) hp0, fun _ => ⟨fun _ => ⟨_, S_prepare (by omega) μ μ hR hm, fun μ7 h7 => ?_⟩, fun w => absurd w9 w⟩⟩
    obtain ⟨y7, P7, r7⟩ := h7
    have hR7 := y7.R hR
    let cd : Nat → Int32 × Int32 := fun q => match snF o q with
      | none => (-1, 0)
      | some b => (nI b.1, nI b.2)
    refine dn (n := p) (G := fun q => κ 34 [.ref kC, .int (bts g 12), .int (cd q).1, .int (cd q).2, .int (nI q), .null] [] μ7) ?_ (fun q hq ih => ?_)
    · rcases e : snF o p with _ | b
      · have ec : cd p = (-1, 0) := by show (match snF o p with | none => _ | some b => _) = _; rw [e]
        have eR : R = (some (.int (-2)), μ) := by show (match snF o p with | none => _ | some b => _) = _; rw [e]
        rw [ec]
        rw [eR] at hk
        exact B_X11_send_34 hk ⟨fun _ => ⟨fun w => absurd rfl w, fun _ => ⟨rfl, hR7.r, y7.2⟩⟩, fun w => absurd (by rw [hR7.2.1.1]; exact nI_le (Nat.le_refl _) (by omega)) w⟩
      · have hb := snF_lt ho e
        have ec : cd p = (nI b.1, nI b.2) := by show (match snF o p with | none => _ | some b => _) = _; rw [e]
        have eR : R = (some (.int (nI b.1)), tlM μ [(nI b.2).toInt64]) := by show (match snF o p with | none => _ | some b => _) = _; rw [e]
        rw [ec]
        rw [eR] at hk
        refine B_X11_send_34 hk ⟨fun _ => ⟨fun _ => ⟨_, S_tellC _ _ rC.i (by decide), fun μ5 h5 => ⟨rfl, ?_, ?_⟩⟩, fun w => absurd w (show ¬ nI b.1 = -1 from nI_ne_m1 (by omega))⟩, fun w => absurd (by rw [hR7.2.1.1]; exact nI_le (Nat.le_refl _) (by omega)) w⟩
        · exact REL2.tell hR7.r h5.1 (twC.i.tr h5.2) (ble rfl)
        · exact h5.2.fr rfl rfl (twC.i.fr rfl rfl y7.2)
    · refine B_X11_send_34 hk ⟨fun w => absurd (by rw [hR7.2.1.1] at w; exact w) (nI_ge hq (by omega)), fun _ => ⟨vp_in_nI (by omega) (by decide), ?_⟩⟩
      have hw := hR7.cw q hq
      rw [nI_clamp (by omega), hw.1]
      refine ⟨_, S_fewestFrom (by omega) μ μ7 hR7 hm P7 r7 hw.2, fun y10 μ11 h11 => ?_⟩
      obtain ⟨e10, e11⟩ := h11
      cases e10
      subst e11
      rw [nI_1]
      have eo : o q = tvT μ n g (hW μ q) := rfl
      rcases e : tvT μ n g (hW μ q) with _ | x
      · have es : snF o (q + 1) = snF o q := by
          show (match o q with | none => snF o q | some x => _) = _
          rw [eo, e]
        have ec : cd (q + 1) = cd q := by show (match snF o (q + 1) with | none => _ | some b => _) = _; rw [es]
        rw [ec] at ih
        exact ⟨fun _ => ih, fun w => absurd rfl w⟩
      · have hx := ho q x hq (eo.trans e)
        refine ⟨fun w => absurd w (show ¬ nI x.1 = -1 from nI_ne_m1 (by omega)), fun _ => ?_⟩
        rcases e2 : snF o q with _ | b
        · have es : snF o (q + 1) = some (q, x.1) := by
            show (match o q with | none => snF o q | some x => match snF o q with | none => some (q, x.1) | some b => if x.1 < b.2 then some (q, x.1) else some b) = _
            rw [eo, e, e2]
          have ec : cd (q + 1) = (nI q, nI x.1) := by show (match snF o (q + 1) with | none => _ | some b => _) = _; rw [es]
          have ec0 : cd q = (-1, 0) := by show (match snF o q with | none => _ | some b => _) = _; rw [e2]
          rw [ec] at ih
          rw [ec0]
          exact ⟨fun _ => ih, fun w => absurd rfl w⟩
        · have hb := snF_lt (fun j x hj => ho j x (by omega)) e2
          have es : snF o (q + 1) = if x.1 < b.2 then some (q, x.1) else some b := by
            show (match o q with | none => snF o q | some x => match snF o q with | none => some (q, x.1) | some b => if x.1 < b.2 then some (q, x.1) else some b) = _
            rw [eo, e, e2]
          have ec0 : cd q = (nI b.1, nI b.2) := by show (match snF o q with | none => _ | some b => _) = _; rw [e2]
          rw [ec0]
          refine ⟨fun w => absurd w (show ¬ nI b.1 = -1 from nI_ne_m1 (by omega)), fun _ => ?_⟩
          by_cases z : x.1 < b.2
          · rw [if_pos z] at es
            have ec : cd (q + 1) = (nI q, nI x.1) := by show (match snF o (q + 1) with | none => _ | some b => _) = _; rw [es]
            rw [ec] at ih
            exact ⟨fun w => absurd w (nI_ge z (by omega)), fun _ => ih⟩
          · rw [if_neg z] at es
            have ec : cd (q + 1) = (nI b.1, nI b.2) := by show (match snF o (q + 1) with | none => _ | some b => _) = _; rw [es]
            rw [ec] at ih
            exact ⟨fun _ => ih, fun w => absurd (nI_le (show b.2 ≤ x.1 by omega) (by omega)) w⟩
  · have hv' := hv.thr
    have f1 : frM ν (m2_si ν kM 22 0) := fr_si rfl fr.rf
    refine m2_MT.intro (ls := [.ref kM, .int (bts g 12), .null, .null, .null]) (by decide +kernel) rfl (ble rfl) (fun κ hk => ?_)
    have e7 : ν.1 kM 7 = nI p := (hv.1 kM 7 rfl rfl).trans hR.2.1.2.1
    refine B_X12_send_0 hk (by omega) ⟨fun _ => ⟨fun _ => ?_, fun w => absurd ((nI_eq (b := 0) (by omega) (by decide)).mp (e7.symm.trans w)) hp0⟩, fun w => absurd w12 w⟩
    let cd : Nat → Int32 × Int32 := fun q => match snF o q with
      | none => (-2, 0)
      | some b => (nI b.1, nI b.2)
    refine dn (n := p) (G := fun q => ∀ M, frZ (m2_si ν kM 22 0) M → κ 29 [.ref kM, .int (bts g 12), .int (cd q).1, .int (cd q).2, .int (nI q)] [] M) (fun M hM => ?_) (fun q hq ih M hM => ?_) _ frZ.rf
    · have vv : vM μ M := hv'.tr hM.1.m
      have mM : frM ν M := f1.tr hM.2
      rcases e : snF o p with _ | b
      · have ec : cd p = (-2, 0) := by show (match snF o p with | none => _ | some b => _) = _; rw [e]
        have eR : R = (some (.int (-2)), μ) := by show (match snF o p with | none => _ | some b => _) = _; rw [e]
        rw [ec]
        rw [eR] at hk
        exact B_X12_send_29 hk ⟨fun _ => ⟨fun w => absurd w (by decide), fun _ => ⟨rfl, vv, mM⟩⟩, fun w => absurd (by rw [vv.1 kM 7 rfl rfl, hR.2.1.2.1]; exact nI_le (Nat.le_refl _) (by omega)) w⟩
      · have hb := snF_lt ho e
        have ec : cd p = (nI b.1, nI b.2) := by show (match snF o p with | none => _ | some b => _) = _; rw [e]
        have eR : R = (some (.int (nI b.1)), tlM μ [(nI b.2).toInt64]) := by show (match snF o p with | none => _ | some b => _) = _; rw [e]
        rw [ec]
        rw [eR] at hk
        refine B_X12_send_29 hk ⟨fun _ => ⟨fun _ => ⟨_, S_tellM _ _ rM.i (by decide), fun μ4 h4 => ⟨rfl, ?_, ?_⟩⟩, fun w => absurd (nI_le (a := 0) (b := b.1) (Nat.zero_le _) (by omega)) w⟩, fun w => absurd (by rw [vv.1 kM 7 rfl rfl, hR.2.1.2.1]; exact nI_le (Nat.le_refl _) (by omega)) w⟩
        · exact vv.tell h4.1 (twM.i.tr h4.2) (ble rfl)
        · exact h4.2.fr rfl rfl (twM.i.fr rfl rfl mM)
    · have vv : vM μ M := hv'.tr hM.1.m
      have hw := hR.hw q hq
      refine B_X12_send_29 hk ⟨fun w => absurd (by rw [vv.1 kM 7 rfl rfl, hR.2.1.2.1] at w; exact w) (nI_ge hq (by omega)), fun _ => ⟨vp_in_nI (by omega) (by decide), ?_⟩⟩
      rw [nI_clamp (by omega), vv.1 kM_where q rfl rfl, hw.1, nI_1]
      have hM5 : frZ (m2_si ν kM 22 0) (m2_si M kM 52 (-1)) := hM.si rfl rfl
      have call := S_tourFrom μ μ hR (cnb g 12) (D := D) (k := 0) (s := 0) (room := hW μ q) (S := g) (P := []) (b := none) (m2_si M kM 52 (-1)) (by omega) rfl rfl (by omega) (by omega) hw.2 (hv'.tr hM5.1.m) (si_at _ _ _ _) (fun i r hr => by simp at hr)
      refine ⟨_, call, fun μ10 h10 => ?_⟩
      obtain ⟨z1, _, b10⟩ := h10
      have hM10 := hM5.tr z1
      have eb : mrg none (shf 0 [] (tvS (dO μ n) (cnb g 12) g (hW μ q))) = o q := by
        rw [shf_0]
        show mrg none (o q) = o q
        cases o q <;> rfl
      rw [eb] at b10
      rcases e : o q with _ | x
      · rw [e] at b10
        have b10 : μ10.1 kM 52 = -1 := b10
        have es : snF o (q + 1) = snF o q := by
          show (match o q with | none => snF o q | some x => _) = _
          rw [e]
        have ec : cd (q + 1) = cd q := by show (match snF o (q + 1) with | none => _ | some b => _) = _; rw [es]
        have nx := ih μ10 hM10
        rw [ec] at nx
        exact ⟨fun _ => nx, fun w => absurd b10 w⟩
      · rw [e] at b10
        obtain ⟨b1, _, _⟩ := b10
        have hx := ho q x hq e
        rw [b1]
        have nx := ih μ10 hM10
        refine ⟨fun w => absurd w (nI_ne_m1 (by omega)), fun _ => ?_⟩
        rcases e2 : snF o q with _ | b
        · have es : snF o (q + 1) = some (q, x.1) := by
            show (match o q with | none => snF o q | some x => match snF o q with | none => some (q, x.1) | some b => if x.1 < b.2 then some (q, x.1) else some b) = _
            rw [e, e2]
          have ec : cd (q + 1) = (nI q, nI x.1) := by show (match snF o (q + 1) with | none => _ | some b => _) = _; rw [es]
          have ec0 : cd q = (-2, 0) := by show (match snF o q with | none => _ | some b => _) = _; rw [e2]
          rw [ec] at nx
          rw [ec0]
          exact ⟨fun _ => nx, fun w => absurd (by decide) w⟩
        · have hb := snF_lt (fun j x hj => ho j x (by omega)) e2
          have es : snF o (q + 1) = if x.1 < b.2 then some (q, x.1) else some b := by
            show (match o q with | none => snF o q | some x => match snF o q with | none => some (q, x.1) | some b => if x.1 < b.2 then some (q, x.1) else some b) = _
            rw [e, e2]
          have ec0 : cd q = (nI b.1, nI b.2) := by show (match snF o q with | none => _ | some b => _) = _; rw [e2]
          rw [ec0]
          refine ⟨fun w => absurd w (show ¬ nI b.1 < 0 from nI_pos (by omega)), fun _ => ?_⟩
          refine pk_lt x.1 b.2 (fun z => ?_) (fun z => ?_) rfl rfl (by omega) (by omega)
          · rw [if_pos z] at es
            have ec : cd (q + 1) = (nI q, nI x.1) := by show (match snF o (q + 1) with | none => _ | some b => _) = _; rw [es]
            rw [ec] at nx
            exact nx
          · rw [if_neg (by omega)] at es
            have ec : cd (q + 1) = (nI b.1, nI b.2) := by show (match snF o (q + 1) with | none => _ | some b => _) = _; rw [es]
            rw [ec] at nx
            exact nx
