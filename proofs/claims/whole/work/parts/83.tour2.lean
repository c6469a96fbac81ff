/-! tourFrom -/
set_option maxHeartbeats 2000000 in
theorem S_tourFrom {n p : Nat} (ν μ0 : m2M) (h : RLn ν μ0 n p) : ∀ (kk : Nat) {D k s room : Nat} {S : Nat → Bool} {P : List Nat} {b : tB} (μ : m2M), kk + 3 ≤ D → cnb S 12 = kk → P.length = k → k + kk ≤ 6 → s ≤ 11 * k → room < 12 → vM ν μ → stB b μ → (∀ i r, P[i]? = some r → μ.1 kM_tour i = nI r) → m2_MT D yX12_tourFrom cX12_tourFrom 6 none [.ref kM, .int (nI k), .int (nI room), .int (bts S 12), .int (nI s)] μ (fun _ μ' => frZ μ μ' ∧ (∀ i, i < k → μ'.1 kM_tour i = μ.1 kM_tour i) ∧ stB (mrg b (shf s P (tvS (dO ν n) kk S room))) μ') := by
  have hdO : ∀ a b x, a < 12 → b < 12 → dO ν n a b = some x → x ≤ 11 := by
    intro a b x ha hb e
    unfold dO at e
    rcases ew : wyU ν n (hO ν) a b with _ | l
    · rw [ew] at e; cases e
    · rw [ew] at e
      have e : some l.length = some x := e
      cases e
      exact (wyU_dec h ha hb ew).2.1
  intro kk
  induction kk with
  | zero =>
    intro D k s room S P b μ hD hS hP hk hs hroom hv hb ht
    obtain ⟨D, rfl⟩ : ∃ E, D = E + 1 := ⟨D - 1, by omega⟩
    have e0 : bts S 12 = 0 := bts_z.mpr (fun i hi => cnb_z hS i hi)
    refine m2_MT.intro (ls := [.ref kM, .int (nI k), .int (nI room), .int (bts S 12), .int (nI s), .null]) (by decide +kernel) rfl (ble rfl) (fun κ hκ => ?_)
    -- the tour is written down
    have fin : mrg b (shf s P (some (0, []))) = some (s, P) → ∀ v, κ 31 [.ref kM, .int (nI k), .int (nI room), .int v, .int (nI s), .int 0] [] (m2_si μ kM 52 (nI s)) := by
      intro em v
      refine dn (n := k) (G := fun i => ∀ M, frZ μ M → M.1 kM 52 = nI s → (∀ i r, P[i]? = some r → M.1 kM_tour i = nI r) → (∀ j, M.1 kM_tour j = μ.1 kM_tour j) → (∀ j r, j < i → P[j]? = some r → M.1 kM_bestTour j = nI r) → κ 31 [.ref kM, .int (nI k), .int (nI room), .int v, .int (nI s), .int (nI i)] [] M) (fun M hM h5 h6 h7 h8 => ?_) (fun i hi ih M hM h5 h6 h7 h8 => ?_) _ (frZ.rf.si rfl rfl) (si_at _ _ _ _) (fun i r hr => by rw [si_nc _ _ _ (by decide)]; exact ht i r hr) (fun j => by rw [si_nc _ _ _ (by decide)]) (fun j r hj => absurd hj (Nat.not_lt_zero j))
      · refine B_X12_tourFrom_31 hκ ⟨fun _ => ⟨hM, fun i _ => h7 i, ?_⟩, fun w => absurd (nI_le (Nat.le_refl _) (by omega)) w⟩
        show stB (mrg b (shf s P (some (0, [])))) M
        rw [em]
        refine ⟨h5, by show s ≤ 66; omega, fun i r hr => ?_⟩
        have : i < P.length := (List.getElem?_eq_some_iff.mp hr).1
        exact h8 i r (by omega) hr
      · refine B_X12_tourFrom_31 hκ ⟨fun w => absurd w (nI_ge hi (by omega)), fun _ => ⟨vp_in_nI (by omega) (by decide), ?_⟩⟩
        rw [nI_clamp (by omega), nI_1]
        refine ih _ (hM.si rfl rfl) ?_ (fun j r hr => ?_) (fun j => ?_) (fun j r hj hr => ?_)
        · rw [si_nc _ _ _ (by decide)]; exact h5
        · rw [si_nc _ _ _ (by decide)]; exact h6 j r hr
        · rw [si_nc _ _ _ (by decide)]; exact h7 j
        · by_cases e : j = i
          · subst e
            rw [si_at]
            exact h6 j r hr
          · rw [si_nj _ _ _ e]
            exact h8 j r (by omega) hr
    have esh : shf s P (some (0, [])) = some (s, P) := by
      show some (s + 0, P ++ []) = some (s, P)
      rw [Nat.add_zero, List.append_nil]
    cases b with
    | none =>
      have hb : μ.1 kM 52 = -1 := hb
      refine B_X12_tourFrom_0 hκ ⟨fun _ => ⟨fun w => absurd e0 w, fun _ => fin (by rw [esh]; rfl) _⟩, fun w => absurd hb w⟩
    | some q0 =>
      obtain ⟨b1, b2, b3⟩ := hb
      refine B_X12_tourFrom_0 hκ ⟨fun w => absurd (b1.symm.trans w) (nI_ne_m1 (by omega)), fun _ => ?_⟩
      rw [b1]
      refine pk_lt s q0.1 (fun z => ⟨fun w => absurd e0 w, fun _ => fin (by rw [esh]; exact if_pos z) _⟩) (fun z => ?_) rfl rfl (by omega) (by omega)
      refine ⟨frZ.rf, fun _ _ => rfl, ?_⟩
      show stB (mrg (some q0) (shf s P (some (0, [])))) μ
      rw [mrg_c (some q0) _ s ⟨q0, rfl, z⟩ (fun q hq => shf_ge hq)]
      exact ⟨b1, b2, b3⟩
  | succ kk ih =>
    intro D k s room S P b μ hD hS hP hk hs hroom hv hb ht
    obtain ⟨D, rfl⟩ : ∃ E, D = E + 1 := ⟨D - 1, by omega⟩
    have e0 : ¬ bts S 12 = 0 := fun e => by
      have := cnb_f0 (bts_z.mp e)
      omega
    refine m2_MT.intro (ls := [.ref kM, .int (nI k), .int (nI room), .int (bts S 12), .int (nI s), .null]) (by decide +kernel) rfl (ble rfl) (fun κ hκ => ?_)
    let c : Nat → tB := fun r => if S r = true then (match dO ν n room r with
      | none => none
      | some x => shf x [r] (tvS (dO ν n) kk (rmB S r) r)) else none
    have main : ∀ (f r : Nat) (M : m2M), r + f = 12 → frZ μ M → (∀ i, i < k → M.1 kM_tour i = μ.1 kM_tour i) → stB (mrg b (shf s P (tvL c r))) M → κ 61 [.ref kM, .int (nI k), .int (nI room), .int (bts S 12), .int (nI s), .int (nI r)] [] M := by
      intro f
      induction f with
      | zero =>
        intro r M hr hM h1 h2
        have e : r = 12 := by omega
        subst e
        exact B_X12_tourFrom_61 hκ (Nat.zero_le _) ⟨fun _ => ⟨hM, h1, h2⟩, fun w => absurd (nI_le (Nat.le_refl 12) (by decide)) w⟩
      | succ f ihf =>
        intro r M hr hM h1 h2
        have hr12 : r < 12 := by omega
        have vv : vM ν M := hv.tr hM.1.m
        have step : mrg b (shf s P (tvL c (r + 1))) = mrg (mrg b (shf s P (tvL c r))) (shf s P (c r)) := by
          show mrg b (shf s P (mrg (tvL c r) (c r))) = _
          rw [shf_mrg, mrg_assoc]
        refine B_X12_tourFrom_61 hκ (Nat.zero_le _) ⟨fun w => absurd w (nI_ge (b := 12) hr12 (by decide)), fun _ => ⟨fun w => ?_, fun w => ?_⟩⟩
        · have hSr := (has12 hr12).mp w
          refine ⟨_, S_findOpenWay (by omega) ν M μ0 h vv hroom hr12, fun y9 μ10 h10 => ?_⟩
          obtain ⟨j10, o10⟩ := h10
          have hM10 : frZ μ μ10 := hM.tr j10.t
          have t10 : μ10.1 kM_tour = M.1 kM_tour := (j10.2.1 kM_tour rfl).1
          have s10 := j10.stB h2
          rcases ew : wyU ν n (hO ν) room r with _ | l
          · rw [ew] at o10
            cases o10
            refine ⟨fun w => absurd rfl w, fun _ => ?_⟩
            rw [nI_1]
            have ec : c r = none := by
              show (if S r = true then (match dO ν n room r with
                | none => none
                | some x => shf x [r] (tvS (dO ν n) kk (rmB S r) r)) else none) = none
              rw [if_pos hSr]
              unfold dO
              rw [ew]
              rfl
            refine ihf (r + 1) μ10 (by omega) hM10 (fun i hi => by rw [t10]; exact h1 i hi) ?_
            rw [step, ec]
            exact s10
          · rw [ew] at o10
            obtain ⟨o1, o2, _⟩ := o10
            cases o1
            have hl := (wyU_dec h hroom hr12 ew).2.1
            refine ⟨fun _ => ⟨vp_in_nI (by omega) (by decide), ?_⟩, fun w => absurd w (by decide)⟩
            rw [nI_clamp (by omega), bts_rm hr12, o2, nI_add, nI_1, nI_1]
            have ec : c r = shf l.length [r] (tvS (dO ν n) kk (rmB S r) r) := by
              show (if S r = true then (match dO ν n room r with
                | none => none
                | some x => shf x [r] (tvS (dO ν n) kk (rmB S r) r)) else none) = _
              rw [if_pos hSr]
              have : dO ν n room r = some l.length := by
                unfold dO
                rw [ew]
                rfl
              rw [this]
            have hM11 : frZ μ (m2_si μ10 kM_tour k (nI r)) := hM10.si rfl rfl
            have v11 : vM ν (m2_si μ10 kM_tour k (nI r)) := hv.tr hM11.1.m
            have s11 : stB (mrg b (shf s P (tvL c r))) (m2_si μ10 kM_tour k (nI r)) := by
              revert s10
              cases mrg b (shf s P (tvL c r)) with
              | none => exact fun q => q
              | some q0 => exact fun q => ⟨q.1, q.2.1, fun i r' hr' => q.2.2 i r' hr'⟩
            have call := ih (D := D) (k := k + 1) (s := s + l.length) (room := r) (S := rmB S r) (P := P ++ [r]) (b := mrg b (shf s P (tvL c r))) (m2_si μ10 kM_tour k (nI r)) (by omega) (by have := cnb_rm hSr hr12; omega) (by simp [hP]) (by omega) (by omega) hr12 v11 s11 (fun i r' hr' => by
              by_cases e : i < P.length
              · rw [List.getElem?_append_left e] at hr'
                rw [si_nj _ _ _ (by omega), t10, h1 i (by omega)]
                exact ht i r' hr'
              · have hil : i < P.length + 1 := by
                  have := (List.getElem?_eq_some_iff.mp hr').1
                  simpa using this
                have e2 : i = P.length := by omega
                subst e2
                have : r = r' := by simpa using hr'
                rw [← this, hP, si_at])
            refine ⟨_, call, fun μ18 h18 => ?_⟩
            obtain ⟨g1, g2, g3⟩ := h18
            refine ihf (r + 1) μ18 (by omega) (hM11.tr g1) (fun i hi => ?_) ?_
            · rw [g2 i (by omega), si_nj _ _ _ (by omega), t10]
              exact h1 i hi
            · rw [step, ec]
              have e3 : shf s P (shf l.length [r] (tvS (dO ν n) kk (rmB S r) r)) = shf (s + l.length) (P ++ [r]) (tvS (dO ν n) kk (rmB S r) r) := by
                cases tvS (dO ν n) kk (rmB S r) r with
                | none => rfl
                | some q =>
                  show some (s + (l.length + q.1), P ++ ([r] ++ q.2)) = some (s + l.length + q.1, P ++ [r] ++ q.2)
                  rw [Nat.add_assoc, List.append_assoc]
              rw [e3]
              exact g3
        · have hSr : ¬ S r = true := fun e => w ((has12 hr12).mpr e)
          rw [nI_1]
          have ec : c r = none := if_neg hSr
          refine ihf (r + 1) M (by omega) hM h1 ?_
          rw [step, ec]
          exact h2
    have start : κ 61 [.ref kM, .int (nI k), .int (nI room), .int (bts S 12), .int (nI s), .int 0] [] μ := main 12 0 μ rfl frZ.rf (fun _ _ => rfl) hb
    cases b with
    | none =>
      have hb : μ.1 kM 52 = -1 := hb
      exact B_X12_tourFrom_0 hκ ⟨fun _ => ⟨fun _ => start, fun w => absurd w e0⟩, fun w => absurd hb w⟩
    | some q0 =>
      obtain ⟨b1, b2, b3⟩ := hb
      refine B_X12_tourFrom_0 hκ ⟨fun w => absurd (b1.symm.trans w) (nI_ne_m1 (by omega)), fun _ => ?_⟩
      rw [b1]
      refine pk_lt s q0.1 (fun z => ⟨fun _ => start, fun w => absurd w e0⟩) (fun z => ?_) rfl rfl (by omega) (by omega)
      refine ⟨frZ.rf, fun _ _ => rfl, ?_⟩
      rw [mrg_c (some q0) _ s ⟨q0, rfl, z⟩ (fun q hq => shf_ge hq)]
      exact ⟨b1, b2, b3⟩
