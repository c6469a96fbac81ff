/-! what is only tried, and undone -/
def mvc (n p c j : Nat) : Bool := (c == kM_left && Nat.ble (j + 1) n) || ((c == kM_where || c == kM_wasThere || c == kM_isDone) && Nat.ble (j + 1) p) || (c == kM && j == 16)
/-- the same but for what moves, and scratch -/
def mvd (n p : Nat) (ν ν' : m2M) : Prop := (∀ c j, isM c = true → scr c j = false → mvc n p c j = false → ν'.1 c j = ν.1 c j) ∧ ∀ r j : Nat, ν.1 kM 21 = nI r → r ≤ 16 → j < r → ν'.2 kM_row j = ν.2 kM_row j
theorem mvd.of {n p : Nat} {ν ν' : m2M} (h : vM ν ν') : mvd n p ν ν' := ⟨fun c j a b _ => h.1 c j a b, h.2⟩
theorem mvd.tr {n p : Nat} {ν ν' ν2 : m2M} (h1 : mvd n p ν ν') (h2 : mvd n p ν' ν2) : mvd n p ν ν2 := ⟨fun c j a b d => (h2.1 c j a b d).trans (h1.1 c j a b d), fun r j a b c => (h2.2 r j ((h1.1 kM 21 rfl rfl rfl).trans a) b c).trans (h1.2 r j a b c)⟩
theorem ble_f {a b : Nat} (h : b < a) : Nat.ble a b = false := by
  cases e : Nat.ble a b with
  | false => rfl
  | true => have := Nat.le_of_ble_eq_true e; omega
theorem ble_t {a b : Nat} (h : a ≤ b) : Nat.ble a b = true := Nat.ble_eq.mpr h
theorem mvc_left {n p j : Nat} (h : n ≤ j) : mvc n p kM_left j = false := by
  unfold mvc
  rw [ble_f (show n < j + 1 by omega)]
  rfl
theorem mvc_where {n p j : Nat} (h : p ≤ j) : mvc n p kM_where j = false := by
  unfold mvc
  rw [ble_f (show p < j + 1 by omega)]
  rfl
theorem mvc_was {n p j : Nat} (h : p ≤ j) : mvc n p kM_wasThere j = false := by
  unfold mvc
  rw [ble_f (show p < j + 1 by omega)]
  rfl
theorem mvc_done {n p j : Nat} (h : p ≤ j) : mvc n p kM_isDone j = false := by
  unfold mvc
  rw [ble_f (show p < j + 1 by omega)]
  rfl
theorem mvc_ne {n p c j : Nat} (h1 : c ≠ kM_left) (h2 : c ≠ kM_where) (h3 : c ≠ kM_wasThere) (h4 : c ≠ kM_isDone) (h5 : ¬ (c = kM ∧ j = 16)) : mvc n p c j = false := by
  unfold mvc
  rw [beq_false_of_ne h1, beq_false_of_ne h2, beq_false_of_ne h3, beq_false_of_ne h4]
  simp only [Bool.false_and, Bool.false_or, Bool.or_self]
  by_cases z : c = kM
  · have : j ≠ 16 := fun w => h5 ⟨z, w⟩
    rw [beq_false_of_ne this, Bool.and_false]
  · rw [beq_false_of_ne z, Bool.false_and]
theorem mvd_left {n p : Nat} {ν ν' : m2M} {f : Nat → Int32} (h : mvd n p ν ν') (hf : ∀ j, n ≤ j → f j = ν'.1 kM_left j) : mvd n p ν (m2_sr ν' kM_left f) := by
  refine ⟨fun c j a b d => ?_, h.2⟩
  by_cases e : c = kM_left
  · subst e
    rw [m2_sr_same]
    by_cases w : n ≤ j
    · rw [hf j w]; exact h.1 kM_left j a b d
    · exfalso
      unfold mvc at d
      rw [ble_t (show j + 1 ≤ n by omega)] at d
      cases d
  · rw [m2_sr_ne _ _ e]; exact h.1 c j a b d
theorem mvd_people {n p c : Nat} {ν ν' : m2M} {f : Nat → Int32} (h : mvd n p ν ν') (hc : c = kM_where ∨ c = kM_wasThere ∨ c = kM_isDone) (hf : ∀ j, p ≤ j → f j = ν'.1 c j) : mvd n p ν (m2_sr ν' c f) := by
  have hk : c ≠ kM := by rcases hc with rfl | rfl | rfl <;> decide
  have key : ∀ j, isM c = true → scr c j = false → mvc n p c j = false → f j = ν.1 c j := by
    intro j a b d
    by_cases w : p ≤ j
    · rw [hf j w]; exact h.1 c j a b d
    · exfalso
      unfold mvc at d
      rw [ble_t (show j + 1 ≤ p by omega)] at d
      rcases hc with rfl | rfl | rfl <;> cases d
  refine ⟨fun c' j a b d => ?_, fun r j a b hj => h.2 r j a b hj⟩
  by_cases e : c' = c
  · subst e
    rw [m2_sr_same]
    exact key j a b d
  · rw [m2_sr_ne _ _ e]; exact h.1 c' j a b d
theorem S_putBy {D : Nat} (hD : 1 ≤ D) (μ : m2M) : m2_MT D yX12_putBy cX12_putBy 1 none [.ref kM] μ (fun _ μ' => ag μ μ' ∧ frM μ μ' ∧ ∀ j, 135 ≤ j → j < 180 → μ'.1 kM_put j = ptG μ 3 j) := by
  obtain ⟨D, rfl⟩ : ∃ E, D = E + 1 := ⟨D - 1, by omega⟩
  refine m2_MT.intro (ls := [.ref kM]) (by decide +kernel) rfl (ble rfl) (fun κ hk => ?_)
  refine B_X12_putBy_0 hk ⟨_, S_putIn (i := 3) (by decide) μ, fun μ2 e2 => ?_⟩
  subst e2
  refine ⟨⟨fun c j hs => ?_, fun _ => rfl, fun _ => rfl⟩, fr_sr rfl fr.rf, fun j h1 h2 => if_pos (by omega)⟩
  by_cases e : c = kM_put
  · subst e
    rw [m2_sr_same]
    refine if_neg (fun z => ?_)
    have : scr kM_put j = true := by
      unfold scr
      rw [ble_t (show 135 ≤ j by omega)]
      rfl
    rw [this] at hs
    cases hs
  · rw [m2_sr_ne _ _ e]
/-- brought back, all is as it was -/
theorem vM_back {ν μ μ0 : m2M} {n p : Nat} (hR : RLn ν μ0 n p) (h : mvd n p ν μ) (hp : ∀ j, 135 ≤ j → j < 180 → μ.1 kM_put j = ptG ν 3 j) : vM ν (tkM μ 3 n p) := by
  have hn := hR.n20
  have hp8 := hR.p8
  have f1 : ∀ x : Int32, b01 x → (if (if x = 0 then (0 : Int32) else 1) = 1 then (1 : Int32) else 0) = x := by
    rintro x (rfl | rfl) <;> decide
  refine ⟨fun c j a b => ?_, fun r j a b hj => h.2 r j a b hj⟩
  unfold tkM
  by_cases e1 : c = kM
  · subst e1
    by_cases e2 : j = 16
    · subst e2
      rw [si_at, hp _ (by decide) (by decide)]
      exact ptG_h ν 3
    · rw [si_nj _ _ _ e2]
      exact h.1 kM j a b (mvc_ne (by decide) (by decide) (by decide) (by decide) (fun z => e2 z.2))
  · rw [si_nc _ _ _ e1]
    by_cases e2 : c = kM_isDone
    · subst e2
      rw [m2_sr_same]
      unfold lft
      by_cases w : j < p
      · rw [if_pos w]
        show (if μ.1 kM_put (45 * 3 + 20 + 3 * j + 2) = 1 then (1 : Int32) else 0) = _
        rw [hp _ (by omega) (by omega), ptG_o ν 3 j (by omega)]
        exact f1 _ (hR.2.1.2.2.2 j w).2.2.2.2.2.2.2.2.1
      · rw [if_neg w]
        exact h.1 kM_isDone j a b (mvc_done (by omega))
    · rw [m2_sr_ne _ _ e2]
      by_cases e3 : c = kM_wasThere
      · subst e3
        rw [m2_sr_same]
        unfold lft
        by_cases w : j < p
        · rw [if_pos w]
          show (if μ.1 kM_put (45 * 3 + 20 + 3 * j + 1) = 1 then (1 : Int32) else 0) = _
          rw [hp _ (by omega) (by omega), ptG_t ν 3 j (by omega)]
          exact f1 _ (hR.2.1.2.2.2 j w).2.2.2.2.2.2.2.1
        · rw [if_neg w]
          exact h.1 kM_wasThere j a b (mvc_was (by omega))
      · rw [m2_sr_ne _ _ e3]
        by_cases e4 : c = kM_where
        · subst e4
          rw [m2_sr_same]
          unfold lft
          by_cases w : j < p
          · rw [if_pos w]
            show μ.1 kM_put (45 * 3 + 20 + 3 * j) = _
            rw [hp _ (by omega) (by omega)]
            exact ptG_w ν 3 j (by omega)
          · rw [if_neg w]
            exact h.1 kM_where j a b (mvc_where (by omega))
        · rw [m2_sr_ne _ _ e4]
          by_cases e5 : c = kM_left
          · subst e5
            rw [m2_sr_same]
            unfold lft
            by_cases w : j < n
            · rw [if_pos w]
              show μ.1 kM_put (45 * 3 + j) = _
              rw [hp _ (by omega) (by omega)]
              exact ptG_l ν 3 j (by omega)
            · rw [if_neg w]
              exact h.1 kM_left j a b (mvc_left (by omega))
          · rw [m2_sr_ne _ _ e5]
            exact h.1 c j a b (mvc_ne e5 e4 e3 e2 (fun z => e1 z.1))
theorem S_bringBack {D n p : Nat} (hD : 1 ≤ D) (ν μ μ0 : m2M) (hR : RLn ν μ0 n p) (h : mvd n p ν μ) (hp : ∀ j, 135 ≤ j → j < 180 → μ.1 kM_put j = ptG ν 3 j) : m2_MT D yX12_bringBack cX12_bringBack 1 none [.ref kM] μ (fun _ μ' => vM ν μ' ∧ μ' = tkM μ 3 n p) := by
  obtain ⟨D, rfl⟩ : ∃ E, D = E + 1 := ⟨D - 1, by omega⟩
  refine m2_MT.intro (ls := [.ref kM]) (by decide +kernel) rfl (ble rfl) (fun κ hk => ?_)
  refine B_X12_bringBack_0 hk ?_
  rw [h.1 kM 0 rfl rfl rfl, h.1 kM 7 rfl rfl rfl, hR.1.2.1, hR.2.1.2.1]
  refine ⟨_, S_takeOut (i := 3) (by decide) hR.n20 hR.p8 μ, fun μ2 e2 => ?_⟩
  subst e2
  exact ⟨vM_back hR h hp, rfl⟩
/-- late -/
theorem T_late {D : Nat} (hD : 5 ≤ D) (x : Int32) (μ : m2M) (h : REL μ) : stp D yX11_late cX11_late 2 (some .int) yX12_late cX12_late 6 (some .int) [.int x] μ REL := by
  obtain ⟨D, rfl⟩ : ∃ E, D = E + 1 := ⟨D - 1, by omega⟩
  obtain ⟨n, p, hR⟩ := id h
  have hR : RLn μ μ n p := hR
  have hp := hR.p8
  have hn := hR.n20
  by_cases ok : in_ 12 x
  · obtain ⟨g, hg, rfl⟩ := ok
    refine T_of (some (.int (ltF μ n p g p))) μ ?_ (fun ν hv => ?_)
    · refine m2_MT.intro (ls := [.ref kC, .int (nI g)]) (by decide +kernel) rfl (ble rfl) (fun κ hk => ?_)
      refine B_X11_late_0 hk (Nat.zero_le _) ⟨fun _ => ⟨fun r μ' => r = some (.int (ltF μ n p g p)) ∧ jC μ μ', ?_, fun y5 μ6 r6 => ?_⟩, fun z => absurd (isRoom_iff.mpr ⟨g, hg, rfl⟩) z⟩
      · obtain ⟨D, rfl⟩ : ∃ E, D = E + 1 := ⟨D - 1, by omega⟩
        refine m2_MT.intro (ls := [.ref kW, .int (nI g), .null, .null, .null]) (by decide +kernel) rfl (ble rfl) (fun κ' hk' => ?_)
        refine B_X10_shutOut_0 hk' ⟨_, S_canCome (by omega) μ μ hR hg, fun y1 μ2 r2 => ?_⟩
        obtain ⟨e1, g1, g2, e2⟩ := r2
        cases e1
        have key := dn (n := p) (G := fun i => ∀ μ1, jC μ μ1 → κ' 11 [.ref kW, .int (nI g), .int (cnW μ n p g), .int (ltF μ n p g i), .int (nI i)] [] μ1) ?_ (fun i hi ih => ?_)
        · refine key μ2 ?_
          rw [e2]
          exact jC_sr (jC_sr jC.rf (fun _ => rfl) rfl) (fun _ => rfl) rfl
        · intro μ1 j1
          have hR1 := j1.R hR
          exact B_X10_shutOut_11 hk' (Nat.zero_le _) ⟨fun _ => ⟨rfl, j1⟩, fun z => absurd (by rw [hR1.2.1.1]; exact nI_le (Nat.le_refl p) (by omega)) z⟩
        · intro μ1 j1
          have hR1 := j1.R hR
          have hw := hR.hw i hi
          have hb : fX11_hasBit (cnW μ n p g) (nI i) = 1 ↔ (wyU μ n (hO μ) (hW μ i) g).isSome = true := by
            rw [hasBit_get (by omega)]
            unfold cnW
            rw [bts_get _ _ (by omega)]
            simp [hi]
          refine B_X10_shutOut_11 hk' (Nat.zero_le _) ⟨fun z => absurd (by rw [hR1.2.1.1] at z; exact z) (nI_ge hi (by omega)), fun _ => ⟨fun z => ⟨vp_in_nI (by omega) (by decide), ?_⟩, fun z => ?_⟩⟩
          · rw [nI_clamp (by omega), (hR1.2.1.2.2.2 i hi).1.2.2.1, nI_1]
            have hs := hb.mp z
            cases e : wyU μ n (hO μ) (hW μ i) g with
            | none => rw [e] at hs; cases hs
            | some l =>
              have el : ltF μ n p g (i + 1) = if μ.1 kM_isStranger i = 0 then ltF μ n p g i ||| ((cnW μ n p g &&& (((1 : Int32) <<< (nI i &&& 31)) ^^^ (-1))) &&& (cnW (gD μ l) n p g ^^^ (-1))) else ltF μ n p g i := by
                show (match wyU μ n (hO μ) (hW μ i) g with | none => _ | some l => _) = _
                rw [e]
              refine ⟨fun w => ?_, fun w => ⟨_, S_canComeBehind (by omega) μ μ1 hR1 hi hg e, fun y11 μ12 r12 => ?_⟩⟩
              · rw [el, if_neg w] at ih
                exact ih μ1 j1
              · rw [el, if_pos w] at ih
                obtain ⟨e12, j12⟩ := r12
                cases e12
                exact ih μ12 (j1.tr j12)
          · cases e : wyU μ n (hO μ) (hW μ i) g with
            | none =>
              have el : ltF μ n p g (i + 1) = ltF μ n p g i := by
                show (match wyU μ n (hO μ) (hW μ i) g with | none => _ | some l => _) = _
                rw [e]
              rw [el] at ih
              rw [nI_1]
              exact ih μ1 j1
            | some l => rw [e] at hb; exact absurd (hb.mpr rfl) z
      · obtain ⟨e6, j6⟩ := r6
        exact ⟨e6, (j6.R hR).r, j6.2.c⟩
    · have hv' := hv.thr
      have f1 : frM ν (m2_si ν kM 22 0) := fr_si rfl fr.rf
      refine m2_MT.intro (ls := [.ref kM, .int (nI g), .null, .null, .null, .null]) (by decide +kernel) rfl (ble rfl) (fun κ hk => ?_)
      refine B_X12_late_0 hk (by omega) ⟨fun _ => ?_, fun z => absurd (isRoomM_iff.mpr ⟨g, hg, rfl⟩) z⟩
      have key := dn (n := p) (G := fun i => ∀ μ1, vM μ μ1 → frM ν μ1 → κ 18 [.ref kM, .int (nI g), .int (ltF μ n p g i), .int (nI i), .null, .null] [] μ1) ?_ (fun i hi ih => ?_)
      · exact key _ hv' f1
      · intro μ1 v1 f1
        have e7 := (v1.1 kM 7 rfl rfl).trans hR.2.1.2.1
        exact B_X12_late_18 hk ⟨fun _ => ⟨rfl, v1, f1⟩, fun z => absurd (by rw [e7]; exact nI_le (Nat.le_refl p) (by omega)) z⟩
      · intro μ1 v1 f1
        have e7 := (v1.1 kM 7 rfl rfl).trans hR.2.1.2.1
        have hw := hR.hw i hi
        refine B_X12_late_18 hk ⟨fun z => absurd (by rw [e7] at z; exact z) (nI_ge hi (by omega)), fun _ => ⟨_, S_putBy (by omega) μ1, fun μ3 r3 => ⟨vp_in_nI (by omega) (by decide), ?_⟩⟩⟩
        obtain ⟨a3, q3, p3⟩ := r3
        have v3 : vM μ μ3 := v1.tr a3.m
        have p3' : ∀ j, 135 ≤ j → j < 180 → μ3.1 kM_put j = ptG μ 3 j := fun j a b => (p3 j a b).trans (congrFun (vM_ptG v1) j)
        rw [nI_clamp (by omega), v3.1 kM_where i rfl rfl, hw.1]
        have bk : ∀ (μa : m2M) (v : Int32), mvd n p μ μa → frM ν μa → (∀ j, 135 ≤ j → j < 180 → μa.1 kM_put j = ptG μ 3 j) → v = ltF μ n p g (i + 1) → ∃ Q17 : Option Value → m2M → Prop, m2_MT D yX12_bringBack cX12_bringBack 1 none [.ref kM] μa Q17 ∧ ∀ (μ16 : m2M), Q17 none μ16 → (κ 18 [.ref kM, .int (nI g), .int v, .int (nI (i + 1)), .null, .null] [] μ16) := by
          rintro μa v ma fa pa rfl
          refine ⟨_, S_bringBack (by omega) μ μa μ hR ma pa, fun μ16 r16 => ih μ16 r16.1 ?_⟩
          rw [r16.2]
          exact frM_tkM fa
        rw [nI_1]
        refine ⟨_, S_findOpenWay (by omega) μ μ3 μ hR v3 hw.2 hg, fun y8 μ9 r9 => ?_⟩
        obtain ⟨j9, m9⟩ := r9
        have v9 := j9.v v3
        have f9 : frM ν μ9 := (f1.tr q3).tr j9.2.m
        have p9 : ∀ j, 135 ≤ j → j < 180 → μ9.1 kM_put j = ptG μ 3 j := fun j a b => (j9.p j).trans (p3' j a b)
        rw [v9.1 kM_isStranger i rfl rfl]
        revert m9
        cases e : wyU μ n (hO μ) (hW μ i) g with
        | none =>
          have el : ltF μ n p g (i + 1) = ltF μ n p g i := by
            show (match wyU μ n (hO μ) (hW μ i) g with | none => _ | some l => _) = _
            rw [e]
          intro m9
          cases m9
          exact ⟨fun _ => bk μ9 _ (mvd.of v9) f9 p9 el.symm, fun z => absurd rfl z⟩
        | some l =>
          have el : ltF μ n p g (i + 1) = if μ.1 kM_isStranger i = 0 then ltF μ n p g i ||| ((cnW μ n p g &&& (((1 : Int32) <<< (nI i &&& 31)) ^^^ (-1))) &&& (cnW (gD μ l) n p g ^^^ (-1))) else ltF μ n p g i := by
            show (match wyU μ n (hO μ) (hW μ i) g with | none => _ | some l => _) = _
            rw [e]
          intro m9
          have m91 := m9.1
          cases m91
          refine ⟨fun z => absurd z (by decide), fun _ => ⟨fun z => bk μ9 _ (mvd.of v9) f9 p9 (by rw [el, if_neg z]), fun z => ?_⟩⟩
          refine ⟨_, S_whoCan (by omega) μ μ9 μ hR v9 hg, fun y27 μ28 r28 => ?_⟩
          obtain ⟨e28, j28⟩ := r28
          cases e28
          have v28 := j28.v v9
          rw [v28.1 kM_where i rfl rfl, hw.1]
          refine ⟨_, S_findOpenWay (by omega) μ μ28 μ hR v28 hw.2 hg, fun y33 μ34 r34 => ?_⟩
          obtain ⟨j34, m34⟩ := r34
          rw [e] at m34
          obtain ⟨m341, m342, m343⟩ := m34
          have v34 := j34.v v28
          have f34 : frM ν μ34 := (f9.tr j28.2.m).tr j34.2.m
          have p34 : ∀ j, 135 ≤ j → j < 180 → μ34.1 kM_put j = ptG μ 3 j := fun j a b => (j34.p j).trans ((j28.p j).trans (p9 j a b))
          obtain ⟨lN1, lN2, lN3, lN4⟩ := wyU_dec hR hw.2 hg e
          have key2 := dn (n := l.length) (G := fun k => κ 75 [.ref kM, .int (nI g), .int (ltF μ n p g i), .int (nI i), .int (cnW μ n p g), .int (nI k)] [] (m2_sr μ34 kM_left (decF (μ34.1 kM_left) (l.take k)))) ?_ (fun k hk2 ih2 => ?_)
          · rw [List.take_zero, decF_nil, m2_sr_id] at key2
            exact key2
          · rw [List.take_length]
            have eleft : μ34.1 kM_left = μ.1 kM_left := funext fun j => v34.1 kM_left j rfl rfl
            have vd : vM (gD μ l) (m2_sr μ34 kM_left (decF (μ34.1 kM_left) l)) := by
              rw [eleft]
              exact v34.sr (by decide) (fun _ _ => rfl)
            refine B_X12_late_75 hk ⟨fun _ => ⟨_, S_whoCan (by omega) (gD μ l) _ (cD μ l) (hR.dec lN4) vd hg, fun y3 μ4 r4 => ?_⟩, fun w => absurd (by rw [show (m2_sr μ34 kM_left (decF (μ34.1 kM_left) l)).1 kM 37 = nI l.length from m342]; exact nI_le (Nat.le_refl _) (by omega)) w⟩
            obtain ⟨e4, j4⟩ := r4
            cases e4
            rw [nI_1]
            refine bk μ4 _ ?_ ?_ ?_ ?_
            · refine (mvd_left (f := decF (μ34.1 kM_left) l) (mvd.of v34) (fun j hj => ?_)).tr (mvd.of j4.1.m)
              unfold decF
              exact if_neg (fun w => by have := (lN4 j w).1; omega)
            · exact (fr_sr rfl f34 : frM ν (m2_sr μ34 kM_left (decF (μ34.1 kM_left) l))).tr j4.2.m
            · intro j a b
              exact (j4.p j).trans (p34 j a b)
            · rw [el, if_pos z, Int32.and_assoc, Int32.and_assoc, Int32.and_comm (cnW (gD μ l) n p g ^^^ -1)]
          · have e0 : l[k]? = some l[k] := List.getElem?_eq_getElem hk2
            have e1 : (m2_sr μ34 kM_left (decF (μ34.1 kM_left) (l.take k))).1 kM_way k = nI l[k] := m343 k _ e0
            have hd := lN3 k _ e0
            refine B_X12_late_75 hk ⟨fun w => absurd (by rw [show (m2_sr μ34 kM_left (decF (μ34.1 kM_left) (l.take k))).1 kM 37 = nI l.length from m342] at w; exact w) (nI_ge hk2 (by omega)), fun _ => ⟨vp_in_nI (by omega) (by decide), ?_⟩⟩
            rw [nI_clamp (by omega), e1, nI_clamp (by omega), m2_si_sr, m2_sr_same, decF_s lN1 e0, nI_1]
            exact ⟨vp_in_nI (by omega) (by decide), ih2⟩
  · refine T_of (some (.int (-1))) μ ?_ (fun ν hv => ?_)
    · refine m2_MT.intro (ls := [.ref kC, .int x]) (by decide +kernel) rfl (ble rfl) (fun κ hk => ?_)
      exact B_X11_late_0 hk (Nat.zero_le _) ⟨fun z => absurd (isRoom_iff.mp z) ok, fun _ => ⟨rfl, h, fr.rf⟩⟩
    · refine m2_MT.intro (ls := [.ref kM, .int x, .null, .null, .null, .null]) (by decide +kernel) rfl (ble rfl) (fun κ hk => ?_)
      exact B_X12_late_0 hk (by omega) ⟨fun z => absurd (isRoomM_iff.mp z) ok, fun _ => ⟨rfl, hv.thr, fr_si rfl fr.rf⟩⟩
