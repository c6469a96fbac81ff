/-! home, fire: the reference -/
theorem sumN_ge {f : Nat → Nat} {i : Nat} : ∀ {n : Nat}, i < n → f i ≤ sumN f n
  | 0, h => absurd h (Nat.not_lt_zero i)
  | n + 1, h => by
    unfold sumN
    by_cases e : i = n
    · subst e; omega
    · have := sumN_ge (f := f) (i := i) (n := n) (by omega)
      omega
theorem has8 {S : Nat → Bool} {q : Nat} (h : q < 8) : fX12_has (bts S 8) (nI q) = 1 ↔ S q = true := by
  rw [has_iff (by omega), bts_get _ _ (by decide)]
  simp [h]
theorem has12 {S : Nat → Bool} {q : Nat} (h : q < 12) : fX12_has (bts S 12) (nI q) = 1 ↔ S q = true := by
  rw [has_iff (by omega), bts_get _ _ (by decide)]
  simp [h]
set_option maxHeartbeats 1000000 in
theorem S_flowOf {D n p : Nat} {S g : Nat → Bool} (hD : 4 ≤ D) (ν μ0 μ : m2M) (h : RLn ν μ0 n p) (hv : vM ν μ) (hS : ∀ q, p ≤ q → S q = false) : m2_MT D yX12_flowOf cX12_flowOf 4 (some .int) [.ref kM, .int (bts S 8), .int (bts g 12)] μ (fun r μ' => fr isGm μ μ' ∧ ∃ V, r = some (.int (nI V)) ∧ V ≤ 784000 ∧ (fea (dcut n (dA ν) (dB ν) (dT ν) (dL ν)) (hW ν) g S ↔ cnb S 8 ≤ V)) := by
  obtain ⟨D, rfl⟩ : ∃ E, D = E + 1 := ⟨D - 1, by omega⟩
  have hn := h.n20
  have hp := h.p8
  let dc := dcut n (dA ν) (dB ν) (dT ν) (dL ν)
  refine m2_MT.intro (ls := [.ref kM, .int (bts S 8), .int (bts g 12), .null]) (by decide +kernel) rfl (ble rfl) (fun κ hk => ?_)
  refine B_X12_flowOf_0 hk ⟨_, S_clearFlow _, fun μ2 h2 => ?_⟩
  -- the ROOMS to come to
  have goals : ∀ (k r : Nat) (M : m2M), r + k = 12 → fr isGm μ M → (∃ c : Nat → Nat, (∀ k, k < 196 → M.1 kM_can k = nI (c k)) ∧ (∀ k, k < 196 → c k ≤ 1500) ∧ (∀ X : Nat → Bool, X 12 = true → noG g X → cutC c X = dc X + cnb (fun j => S j && !X (hW ν j)) 8) ∧ ∀ r', r' < r → g r' = true → c (14 * r' + 13) = 100) → κ 76 [.ref kM, .int (bts S 8), .int (bts g 12), .int (nI r)] [] M := by
    intro k
    induction k with
    | zero =>
      intro r M hr hM hs
      have e : r = 12 := by omega
      subst e
      obtain ⟨c, c1, c2, c3, c4⟩ := hs
      have ck : ckM c := fun r s hr hs => by
        have := c2 (14 * r + s) (by omega)
        have := c2 (14 * s + r) (by omega)
        omega
      have fl := S_flow (D := D) (frm := 12) (to := 13) (by omega) M c1 ck (by decide) (by decide) (by decide)
      refine B_X12_flowOf_76 hk (Nat.zero_le _) ⟨fun _ => ⟨_, fl, fun y5 μ6 h6 => ?_⟩, fun w => absurd (nI_le (Nat.le_refl 12) (by decide)) w⟩
      obtain ⟨f6, V, R, e6, l6, m6, _⟩ := h6
      refine ⟨hM.tr f6, V, e6, l6, fun hf => ?_, fun hc X hX => ?_⟩
      · obtain ⟨r1, r2, r3, _⟩ := m6
        rw [← r3]
        by_cases z : ∃ r, r < 12 ∧ g r = true ∧ R r = true
        · obtain ⟨r, z1, z2, z3⟩ := z
          have h8 := cnb_le S 8
          have ge := sumN_ge (f := fun k => if crs R k = true then c k else 0) (i := 14 * r + 13) (n := 196) (by omega)
          have ge : (if crs R (14 * r + 13) = true then c (14 * r + 13) else 0) ≤ cutC c R := ge
          rw [crs_of R (by decide), z3, r2, if_pos (by decide), c4 r z1 z2] at ge
          omega
        · have hng : noG g R := fun r hr hg => by
            cases e : R r with
            | false => rfl
            | true => exact absurd ⟨r, hr, hg, e⟩ z
          rw [c3 R r1 hng]
          have b1 := hf R hng
          have b2 := cnb_sp (f := S) (g := fun j => R (hW ν j)) 8
          unfold inX at b1
          have b1 : cnb (fun q => S q && R (hW ν q)) 8 ≤ dc R := b1
          omega
      · let X' : Nat → Bool := fun x => if x = 12 then true else if x = 13 then false else X x
        have x1 : X' 12 = true := rfl
        have x2 : X' 13 = false := rfl
        have x3 : ∀ x, x < 12 → X' x = X x := fun x hx => by
          show (if x = 12 then true else if x = 13 then false else X x) = X x
          rw [if_neg (by omega), if_neg (by omega)]
        have b0 := m6.2.2.2.1 X' x1 x2
        rw [c3 X' x1 (fun r hr hg => by rw [x3 r hr]; exact hX r hr hg)] at b0
        have ed : dc X' = dc X := by
          refine sumN_congr (fun d hd => ?_)
          obtain ⟨_, a2, _, a4, _⟩ := h.dr hd
          unfold rcT
          rw [x3 _ a2, x3 _ a4]
        have ec : cnb (fun j => S j && !X' (hW ν j)) 8 = cnb (fun j => S j && !X (hW ν j)) 8 := cnb_congr (fun i _ => by
          by_cases z : i < p
          · rw [x3 _ (h.hw i z).2]
          · rw [hS i (by omega)]; rfl)
        rw [ed, ec] at b0
        have b2 := cnb_sp (f := S) (g := fun j => X (hW ν j)) 8
        show cnb (fun q => S q && X (hW ν q)) 8 ≤ dc X
        have b2 : cnb S 8 = cnb (fun q => S q && X (hW ν q)) 8 + cnb (fun j => S j && !X (hW ν j)) 8 := b2
        omega
    | succ k ih =>
      intro r M hr hM hs
      obtain ⟨c, c1, c2, c3, c4⟩ := hs
      refine B_X12_flowOf_76 hk (Nat.zero_le _) ⟨fun w => absurd w (nI_ge (b := 12) (by omega) (by decide)), fun _ => ?_⟩
      rw [show (13 : Int32) = nI 13 from rfl, can_ix, nI_clamp (by omega), nI_1]
      refine ⟨fun w => ⟨vp_in_nI (by omega) (by decide), ?_⟩, fun w => ?_⟩
      · have hg := (has12 (show r < 12 by omega)).mp w
        refine ih (r + 1) _ (by omega) (fr_si rfl hM) ⟨updN c (14 * r + 13) 100, fun k hk' => ?_, fun k hk' => ?_, fun X h1 h2 => ?_, fun r' hr' hg' => ?_⟩
        · by_cases z : k = 14 * r + 13
          · rw [z, si_at, updN_at]; rfl
          · rw [si_nj _ _ _ z, updN_ne z]; exact c1 k hk'
        · by_cases z : k = 14 * r + 13
          · rw [z, updN_at]; decide
          · rw [updN_ne z]; exact c2 k hk'
        · have e := cutC_upd (c := c) (k := 14 * r + 13) (v := 100) X (by omega)
          rw [crs_of X (by decide), h2 r (by omega) hg] at e
          simp at e
          rw [e]
          exact c3 X h1 h2
        · by_cases z : r' = r
          · rw [z, updN_at]
          · rw [updN_ne (by omega)]; exact c4 r' (by omega) hg'
      · refine ih (r + 1) M (by omega) hM ⟨c, c1, c2, c3, fun r' hr' hg' => ?_⟩
        by_cases z : r' = r
        · rw [z] at hg'
          exact absurd ((has12 (show r < 12 by omega)).mpr hg') w
        · exact c4 r' (by omega) hg'
  -- the PEOPLE
  have ppl : ∀ (k q : Nat) (M : m2M), q + k = p → fr isGm μ M → (∃ c : Nat → Nat, (∀ k, k < 196 → M.1 kM_can k = nI (c k)) ∧ (∀ k, k < 196 → c k ≤ 1220 + q) ∧ (∀ X : Nat → Bool, X 12 = true → cutC c X = dc X + cnb (fun j => S j && !X (hW ν j)) q)) → κ 33 [.ref kM, .int (bts S 8), .int (bts g 12), .int (nI q)] [] M := by
    intro k
    induction k with
    | zero =>
      intro q M hq hM hs
      have e : q = p := by omega
      subst e
      obtain ⟨c, c1, c2, c3⟩ := hs
      have vv := frGm_v hM hv
      refine B_X12_flowOf_33 hk (Nat.zero_le _) ⟨fun _ => ?_, fun w => absurd (by rw [vv.1 kM 7 rfl rfl, h.2.1.2.1]; exact nI_le (Nat.le_refl _) (by omega)) w⟩
      refine goals 12 0 M rfl hM ⟨c, c1, fun k hk' => by have := c2 k hk'; omega, fun X h1 _ => ?_, fun r' hr' => absurd hr' (Nat.not_lt_zero r')⟩
      rw [c3 X h1]
      have e1 := cnb_ext (f := fun j => S j && !X (hW ν j)) (n := q) (m := 8) hp
      have e2 : cnb (fun j => decide (j < q) && (S j && !X (hW ν j))) 8 = cnb (fun j => S j && !X (hW ν j)) 8 := cnb_congr (fun i _ => by
        by_cases z : i < q
        · simp [z]
        · rw [hS i (by omega)]; simp)
      rw [e1, e2]
    | succ k ih =>
      intro q M hq hM hs
      obtain ⟨c, c1, c2, c3⟩ := hs
      have vv := frGm_v hM hv
      have hw := h.hw q (by omega)
      refine B_X12_flowOf_33 hk (Nat.zero_le _) ⟨fun w => absurd (by rw [vv.1 kM 7 rfl rfl, h.2.1.2.1] at w; exact w) (nI_ge (by omega) (by omega)), fun _ => ?_⟩
      rw [nI_clamp (by omega), vv.1 kM_where q rfl rfl, hw.1, show (168 : Int32) = nI 168 from rfl, nI_add, nI_clamp (by omega), nI_1, c1 _ (by omega), nI_1]
      refine ⟨fun w => ⟨vp_in_nI (by omega) (by decide), vp_in_nI (by omega) (by decide), ?_⟩, fun w => ?_⟩
      · have hq' := (has8 (show q < 8 by omega)).mp w
        refine ih (q + 1) _ (by omega) (fr_si rfl hM) ⟨updN c (14 * 12 + hW ν q) (c (14 * 12 + hW ν q) + 1), fun k hk' => ?_, fun k hk' => ?_, fun X h1 => ?_⟩
        · by_cases z : k = 168 + hW ν q
          · rw [z, si_at, updN_at]
          · rw [si_nj _ _ _ z, updN_ne (by omega)]; exact c1 k hk'
        · by_cases z : k = 14 * 12 + hW ν q
          · rw [z, updN_at]; have := c2 (14 * 12 + hW ν q) (by omega); omega
          · rw [updN_ne z]; have := c2 k hk'; omega
        · have e := cutC_upd (c := c) (k := 14 * 12 + hW ν q) (v := c (14 * 12 + hW ν q) + 1) X (by omega)
          rw [crs_of X (by omega), h1] at e
          have e3 := c3 X h1
          show _ = dc X + (cnb (fun j => S j && !X (hW ν j)) q + (if (S q && !X (hW ν q)) = true then 1 else 0))
          rw [hq']
          revert e
          cases X (hW ν q) <;> simp <;> omega
      · have hq' : S q = false := by
          cases e : S q with
          | false => rfl
          | true => exact absurd ((has8 (show q < 8 by omega)).mpr e) w
        refine ih (q + 1) M (by omega) hM ⟨c, c1, fun k hk' => by have := c2 k hk'; omega, fun X h1 => ?_⟩
        show _ = dc X + (cnb (fun j => S j && !X (hW ν j)) q + (if (S q && !X (hW ν q)) = true then 1 else 0))
        rw [hq', c3 X h1]
        rfl
  refine dn (n := n) (G := fun i => ∀ M, fr isGm μ M → lyS ν (dL ν) i M → κ 6 [.ref kM, .int (bts S 8), .int (bts g 12), .int (nI i)] [] M) (fun M hM hs => ?_) (fun i hi ih M hM hs => ?_) μ2 h2.1 (lyS_0 h2.2)
  · have vv := frGm_v hM hv
    refine B_X12_flowOf_6 hk ⟨fun _ => ?_, fun w => absurd (by rw [vv.1 kM 0 rfl rfl, h.1.2.1]; exact nI_le (Nat.le_refl _) (by omega)) w⟩
    obtain ⟨c, c1, c2, c3⟩ := hs
    exact ppl p 0 M (by omega) hM ⟨c, c1, fun k hk' => by have := c2 k hk'; omega, fun X _ => c3 X⟩
  · have vv := frGm_v hM hv
    refine B_X12_flowOf_6 hk ⟨fun w => absurd (by rw [vv.1 kM 0 rfl rfl, h.1.2.1] at w; exact w) (nI_ge hi (by omega)), fun _ => ⟨vp_in_nI (by omega) (by decide), ?_⟩⟩
    have z := h.dr hi
    rw [nI_clamp (by omega), vv.1 kM_left i rfl rfl, nI_1]
    exact ⟨_, S_layDoor ν μ0 M h vv.f hi (by omega) z.2.2.2.2.2.2.1 hs, fun μ12 h12 => ih μ12 (hM.tr h12.1) h12.2⟩
set_option maxHeartbeats 1000000 in
theorem S_toRooms {D n p : Nat} {g : Nat → Bool} (hD : 5 ≤ D) (ν μ0 μ : m2M) (h : RLn ν μ0 n p) (hv : vM ν μ) : m2_MT D yX12_toRooms cX12_toRooms 5 (some .int) [.ref kM, .int (bts g 12)] μ (fun r μ' => r = some (.int (nI (cnb (gdB (fea (dcut n (dA ν) (dB ν) (dT ν) (dL ν)) (hW ν) g) p) 8))) ∧ vM (tlM ν [(bts (gdB (fea (dcut n (dA ν) (dB ν) (dT ν) (dL ν)) (hW ν) g) p) 8).toInt64]) μ' ∧ frM μ μ') := by
  obtain ⟨D, rfl⟩ : ∃ E, D = E + 1 := ⟨D - 1, by omega⟩
  have hp := h.p8
  let F := fea (dcut n (dA ν) (dB ν) (dT ν) (dL ν)) (hW ν) g
  let G := gdB F
  refine m2_MT.intro (ls := [.ref kM, .int (bts g 12), .null, .null, .null]) (by decide +kernel) rfl (ble rfl) (fun κ hk => ?_)
  refine B_X12_toRooms_0 hk ?_
  have go : ∀ (k q : Nat) (M : m2M), q + k = p → fr isGm μ M → κ 7 [.ref kM, .int (bts g 12), .int (bts (G q) 8), .int (nI (cnb (G q) 8)), .int (nI q)] [] M := by
    intro k
    induction k with
    | zero =>
      intro q M hq hM
      have e : q = p := by omega
      subst e
      have vv := frGm_v hM hv
      refine B_X12_toRooms_7 hk ⟨fun _ => ⟨_, S_tellM _ _ rM.i (by decide), fun μ3 h3 => ⟨rfl, ?_, ?_⟩⟩, fun w => absurd (by rw [vv.1 kM 7 rfl rfl, h.2.1.2.1]; exact nI_le (Nat.le_refl _) (by omega)) w⟩
      · exact vv.tell h3.1 (twM.i.tr h3.2) (ble rfl)
      · exact h3.2.fr rfl rfl (twM.i.fr rfl rfl (frGm_m hM))
    | succ k ih =>
      intro q M hq hM
      have vv := frGm_v hM hv
      have hGf : G q q = false := gdB_f (Nat.le_refl _)
      have hc8 := cnb_le (G q) 8
      refine B_X12_toRooms_7 hk ⟨fun w => absurd (by rw [vv.1 kM 7 rfl rfl, h.2.1.2.1] at w; exact w) (nI_ge (by omega) (by omega)), fun _ => ?_⟩
      rw [bts_or (by decide) (show q < 8 by omega), nI_1, nI_1]
      have hS : ∀ j, p ≤ j → adB (G q) q j = false := fun j hj => by
        unfold adB
        rw [show G q j = false from gdB_f (by omega), decide_eq_false (by omega)]
        rfl
      refine ⟨_, S_flowOf (S := adB (G q) q) (g := g) (by omega) ν μ0 M h vv hS, fun y7 μ8 h8 => ?_⟩
      obtain ⟨f8, V, e8, l8, i8⟩ := h8
      cases e8
      have ec : cnb (adB (G q) q) 8 = cnb (G q) 8 + 1 := by rw [cnb_ad hGf, if_pos (by omega)]
      rw [ec] at i8
      refine pk_lt (cnb (G q) 8) V (fun z => ?_) (fun z => ?_) rfl rfl (by omega) (by omega)
      · have eG : G (q + 1) = adB (G q) q := gdB_y (i8.mpr z)
        have nx := ih (q + 1) μ8 (by omega) (hM.tr f8)
        rw [eG, ec] at nx
        exact nx
      · have eG : G (q + 1) = G q := gdB_n (fun y => by have := i8.mp y; omega)
        have nx := ih (q + 1) μ8 (by omega) (hM.tr f8)
        rw [eG] at nx
        exact nx
  have e0 : (0 : Int32) = bts (G 0) 8 := by
    show (0 : Int32) = bts (fun _ => false) 8
    decide
  have e1 : cnb (G 0) 8 = 0 := cnb_f0 (fun _ _ => rfl)
  have start := go p 0 μ (by omega) fr.rf
  rw [← e0, e1] at start
  exact start
