/-! two: Pairs.goOn, search -/
theorem twq_le {A B : Nat → Nat} {T U : Nat → Bool} {W : Nat → Nat} {n g1 : Nat} {c1 c2 : Bool} {w2 g2 k u : Nat} {S : Nat → Bool} {P : List Nat} {q : Nat × List Nat} (hk : P.length + k ≤ 5) (h : dff A B T U n g1 (twG A B T W n c1 c2 w2 g2) k u S P = some q) : q.1 ≤ 10 := by
  obtain ⟨R, r1, r2⟩ := dff_P h
  obtain ⟨Q, q1, q2⟩ := twG_q r2
  rw [q2]
  show (P ++ R).length + Q.length ≤ 10
  rw [List.length_append]
  omega
theorem mrg_nl {b : tB} {c : tB} {s : Nat} (hb : ∀ q0, b = some q0 → q0.1 ≤ s) (hn : b = none → 11 ≤ s) (hc : ∀ q, c = some q → s ≤ q.1 ∧ q.1 ≤ 10) : mrg b c = b := by
  cases c with
  | none => rfl
  | some q =>
    obtain ⟨c1, c2⟩ := hc q rfl
    cases b with
    | none =>
      have := hn rfl
      omega
    | some q0 =>
      have := hb q0 rfl
      exact if_neg (by omega)
set_option maxHeartbeats 2000000 in
theorem S_pairsOn {n p g1 w2 g2 : Nat} {c1 c2 : Bool} (ν μ0 : m2M) (h : RLn ν μ0 n p) (hg1 : g1 < 12) (hw2 : w2 < 12) (hg2 : g2 < 12) (h9 : μ0.1 kA 9 = nI g1) (h10 : μ0.1 kA 10 = nI w2) (h11 : μ0.1 kA 11 = nI g2) (h12 : μ0.1 kA 12 = nI (dF ν n w2 g2)) (h13 : μ0.1 kA 13 = if (c1 && c2) = true then 1 else 0) (htg : ∀ u, u < 12 → μ0.1 kA_toGoal u = nI (dF ν n u g1)) :
    ∀ (k : Nat) {D u : Nat} {S : Nat → Bool} {P : List Nat} {b : tB} (μ : m2M), k + 4 ≤ D → P.length + k = 5 → u < 12 → frPa μ0 μ → (∀ d, d ∈ P → d < n) → (∀ i d, P[i]? = some d → μ.1 kA_tried i = nI d) → stA b μ → m2_MT D yX5_goOn cX5_goOn 7 none [.ref kA, .int (nI P.length), .int (nI u), .int (bts S 12)] μ (fun _ μ' => frPa μ μ' ∧ (∀ i, i < P.length → μ'.1 kA_tried i = μ.1 kA_tried i) ∧ stA (mrg b (dff (hA ν) (hB ν) (hT ν) (tU (hL ν) (hL ν) c1) n g1 (twG (hA ν) (hB ν) (hT ν) (hL ν) n c1 c2 w2 g2) k u S P)) μ') := by
  have hn := h.n20
  have leaf : ∀ {κ : Nat → List Value → List Value → m2M → Prop} {D : Nat} {QQ : Option Value → m2M → Prop} {S : Nat → Bool} {P : List Nat} {b : tB} (μ : m2M) (k : Nat), 3 ≤ D → P.length ≤ 5 → frPa μ0 μ → (∀ d, d ∈ P → d < n) → (∀ i d, P[i]? = some d → μ.1 kA_tried i = nI d) → stA b μ → m2_RL κ cX5_goOn RX5 7 (D + 1) none QQ → (∀ μ', frPa μ μ' → (∀ i, i < P.length → μ'.1 kA_tried i = μ.1 kA_tried i) → stA (mrg b (dff (hA ν) (hB ν) (hT ν) (tU (hL ν) (hL ν) c1) n g1 (twG (hA ν) (hB ν) (hT ν) (hL ν) n c1 c2 w2 g2) k g1 S P)) μ' → QQ none μ') → κ 0 [.ref kA, .int (nI P.length), .int (nI g1), .int (bts S 12), .null, .null, .null] [] μ := by
    intro κ D QQ S P b μ k hD hP5 hf hP htr hb hκ fin
    refine B_X5_goOn_0 hκ ⟨fun w => absurd ((hf.2.1 9 (by decide)).trans h9).symm w, fun _ => ⟨_, S_tryOther (c1 := c1) (c2 := c2) (g1 := g1) hD ν μ (hf.1.R h) hw2 hg2 ((hf.2.1 10 (by decide)).trans h10) ((hf.2.1 11 (by decide)).trans h11) ((hf.2.1 13 (by decide)).trans h13) hP5 hP htr hb, fun μ4 h4 => ?_⟩⟩
    obtain ⟨a1, a2, a3⟩ := h4
    refine fin μ4 a1 (fun i _ => by rw [a2]) ?_
    rw [dff_goal]
    exact a3
  intro k
  induction k with
  | zero =>
    intro D u S P b μ hD hPk hu hf hP htr hb
    obtain ⟨D, rfl⟩ : ∃ E, D = E + 1 := ⟨D - 1, by omega⟩
    refine m2_MT.intro (ls := [.ref kA, .int (nI P.length), .int (nI u), .int (bts S 12), .null, .null, .null]) (by decide +kernel) rfl (ble rfl) (fun κ hκ => ?_)
    by_cases e : u = g1
    · subst e
      exact leaf μ 0 (by omega) (by omega) hf hP htr hb hκ (fun μ' a1 a2 a3 => ⟨a1, a2, a3⟩)
    · refine B_X5_goOn_0 hκ ⟨fun _ => ⟨fun w => absurd w (nI_nlt (a := P.length) (b := 5) (by omega) (by omega)), fun _ => ⟨frPa.rf, fun _ _ => rfl, ?_⟩⟩, fun w => absurd ((nI_eq (by omega) (by omega)).mp (w.trans ((hf.2.1 9 (by decide)).trans h9))) e⟩
      show stA (mrg b (if u = g1 then _ else none)) μ
      rw [if_neg e]
      exact hb
  | succ k ih =>
    intro D u S P b μ hD hPk hu hf hP htr hb
    obtain ⟨D, rfl⟩ : ∃ E, D = E + 1 := ⟨D - 1, by omega⟩
    refine m2_MT.intro (ls := [.ref kA, .int (nI P.length), .int (nI u), .int (bts S 12), .null, .null, .null]) (by decide +kernel) rfl (ble rfl) (fun κ hκ => ?_)
    by_cases e : u = g1
    · subst e
      exact leaf μ (k + 1) (by omega) (by omega) hf hP htr hb hκ (fun μ' a1 a2 a3 => ⟨a1, a2, a3⟩)
    · have main : ∀ (f d : Nat) (M : m2M), d + f = n → frPa μ M → (∀ i, i < P.length → M.1 kA_tried i = μ.1 kA_tried i) → stA (mrg b (tvL (dfc (hA ν) (hB ν) (hT ν) (tU (hL ν) (hL ν) c1) (fun d v => dff (hA ν) (hB ν) (hT ν) (tU (hL ν) (hL ν) c1) n g1 (twG (hA ν) (hB ν) (hT ν) (hL ν) n c1 c2 w2 g2) k v (adB S v) (P ++ [d])) u S) d)) M → κ 23 [.ref kA, .int (nI P.length), .int (nI u), .int (bts S 12), .int (nI d), .null, .null] [] M := by
        intro f
        induction f with
        | zero =>
          intro d M hd hM hw hbM
          have ed : d = n := by omega
          subst ed
          have e0 : M.1 kD 6 = nI d := ((hf.tr hM).1.R h).1.1
          refine B_X5_goOn_23 hκ (Nat.zero_le _) ⟨fun _ => ⟨hM, hw, ?_⟩, fun w => absurd (by rw [e0]; exact nI_le (Nat.le_refl _) (by omega)) w⟩
          show stA (mrg b (if u = g1 then _ else _)) M
          rw [if_neg e]
          exact hbM
        | succ f ihf =>
          intro d M hd hM hw hbM
          have hdn : d < n := by omega
          have hf' := hf.tr hM
          have hRM := hf'.1.R h
          have e0 : M.1 kD 6 = nI n := hRM.1.1
          have hcl := hRM.cl d hdn
          have skip : mrg (mrg b (tvL (dfc (hA ν) (hB ν) (hT ν) (tU (hL ν) (hL ν) c1) (fun d v => dff (hA ν) (hB ν) (hT ν) (tU (hL ν) (hL ν) c1) n g1 (twG (hA ν) (hB ν) (hT ν) (hL ν) n c1 c2 w2 g2) k v (adB S v) (P ++ [d])) u S) d)) (dfc (hA ν) (hB ν) (hT ν) (tU (hL ν) (hL ν) c1) (fun d v => dff (hA ν) (hB ν) (hT ν) (tU (hL ν) (hL ν) c1) n g1 (twG (hA ν) (hB ν) (hT ν) (hL ν) n c1 c2 w2 g2) k v (adB S v) (P ++ [d])) u S d) = mrg b (tvL (dfc (hA ν) (hB ν) (hT ν) (tU (hL ν) (hL ν) c1) (fun d v => dff (hA ν) (hB ν) (hT ν) (tU (hL ν) (hL ν) c1) n g1 (twG (hA ν) (hB ν) (hT ν) (hL ν) n c1 c2 w2 g2) k v (adB S v) (P ++ [d])) u S) d) → κ 23 [.ref kA, .int (nI P.length), .int (nI u), .int (bts S 12), .int (nI d + 1), .null, .null] [] M := by
            intro em
            rw [nI_1]
            refine ihf (d + 1) M (by omega) hM hw ?_
            rw [mrg_assoc] at em
            show stA (mrg b (mrg _ (dfc (hA ν) (hB ν) (hT ν) _ _ u S d))) M
            rw [em]
            exact hbM
          have skip0 : dfc (hA ν) (hB ν) (hT ν) (tU (hL ν) (hL ν) c1) (fun d v => dff (hA ν) (hB ν) (hT ν) (tU (hL ν) (hL ν) c1) n g1 (twG (hA ν) (hB ν) (hT ν) (hL ν) n c1 c2 w2 g2) k v (adB S v) (P ++ [d])) u S d = none → κ 23 [.ref kA, .int (nI P.length), .int (nI u), .int (bts S 12), .int (nI d + 1), .null, .null] [] M := fun ec => skip (by rw [ec]; rfl)
          refine B_X5_goOn_23 hκ (Nat.zero_le _) ⟨fun w => absurd (by rw [e0] at w; exact w) (nI_ge hdn (by omega)), fun _ => ⟨vp_in_nI (by omega) (by decide), ?_⟩⟩
          rw [nI_clamp (by omega), hcl.1, cg_bey hRM.cg hdn hu]
          by_cases hl0 : hL ν d = 0
          · refine ⟨fun _ => skip0 (dfc_no (fun z => absurd hl0 (tU_iff.mp z).1)), fun w => absurd (by rw [hl0]; decide) w⟩
          · have hU : tU (hL ν) (hL ν) c1 d = true := tU_iff.mpr ⟨hl0, fun _ => hl0⟩
            refine ⟨fun w => absurd w (nI_nle (by omega) (by omega)), fun _ => ?_⟩
            rcases eb : bey (hA ν) (hB ν) (hT ν) d u with _ | v
            · exact ⟨fun _ => skip0 (dfc_no (fun _ v w => by rw [eb] at w; cases w)), fun w => absurd rfl w⟩
            · have hv12 : v < 12 := by
                have := h.N d hdn
                rcases bey_iff eb with ⟨_, z⟩ | ⟨_, _, z⟩ <;> omega
              refine ⟨fun w => absurd w (nI_ne_m1 (by omega)), fun _ => ⟨fun w => ?_, fun w => ⟨vp_in_nI hv12 (by decide), ?_⟩⟩⟩
              · have hSv := (hasB hv12).mp w
                exact skip0 (dfc_no (fun _ v' z => by rw [eb] at z; cases z; exact hSv))
              · have hSv : S v = false := by
                  cases z : S v with
                  | false => rfl
                  | true => exact absurd ((hasB hv12).mpr z) w
                have etg : M.1 kA_toGoal v = nI (dF ν n v g1) := by rw [hf'.2.2]; exact htg v hv12
                have e12 : M.1 kA 12 = nI (dF ν n w2 g2) := (hf'.2.1 12 (by decide)).trans h12
                have d1 := dF_le (a := v) h hg1
                have d2 := dF_le (a := w2) h hg2
                rw [nI_clamp (by omega), etg, e12, nI_1, nI_add, nI_add]
                have hFg := wy_F (A := hA ν) (B := hB ν) (T := hT ν) (C := fun d => if hO ν d = true then 1 else 0) (n := n) (far := 268435456) (goal := g1) h.N h.AB hg1
                have lo : ∀ q, dfc (hA ν) (hB ν) (hT ν) (tU (hL ν) (hL ν) c1) (fun d v => dff (hA ν) (hB ν) (hT ν) (tU (hL ν) (hL ν) c1) n g1 (twG (hA ν) (hB ν) (hT ν) (hL ν) n c1 c2 w2 g2) k v (adB S v) (P ++ [d])) u S d = some q → P.length + 1 + dF ν n v g1 + dF ν n w2 g2 ≤ q.1 ∧ dF ν n v g1 ≤ k ∧ q.1 ≤ 10 := by
                  intro q hq
                  rw [dfc_of hU eb hSv] at hq
                  have hq : dff (hA ν) (hB ν) (hT ν) (tU (hL ν) (hL ν) c1) n g1 (twG (hA ν) (hB ν) (hT ν) (hL ν) n c1 c2 w2 g2) k v (adB S v) (P ++ [d]) = some q := hq
                  have el : (P ++ [d]).length = P.length + 1 := by simp
                  have g := dff_ge (f := fun u => dF ν n u g1) (m := dF ν n w2 g2) hFg.1 (fun d u v hd hU hb => hFg.2.2.1 u v 1 (bey_E hd (by have := (tU_iff.mp hU).1; unfold hO; exact decide_eq_true (by omega)) hb)) (fun P q hq => twG_d h hg2 hq) hq
                  rw [el] at g
                  exact ⟨g.1, g.2, twq_le (by rw [el]; omega) hq⟩
                refine pk_lt 5 (P.length + 1 + dF ν n v g1) (fun z => skip0 ?_) (fun z => ?_) rfl rfl (by decide) (by omega)
                · cases ec : dfc (hA ν) (hB ν) (hT ν) (tU (hL ν) (hL ν) c1) (fun d v => dff (hA ν) (hB ν) (hT ν) (tU (hL ν) (hL ν) c1) n g1 (twG (hA ν) (hB ν) (hT ν) (hL ν) n c1 c2 w2 g2) k v (adB S v) (P ++ [d])) u S d with
                  | none => rfl
                  | some q =>
                    have := (lo q ec).2.1
                    omega
                · -- the call
                  have call : (vp_in (nI P.length) 5) ∧ (∃ Q25 : Option Value → m2M → Prop, m2_MT D yX5_goOn cX5_goOn 7 none [.ref kA, .int (nI (P.length + 1)), .int (nI v), .int (bts S 12 ||| ((1 : Int32) <<< (nI v &&& 31)))] (m2_si M kA_tried (nI P.length).toNatClampNeg (nI d)) Q25 ∧ ∀ (μ24 : m2M), Q25 none μ24 → (κ 23 [.ref kA, .int (nI P.length), .int (nI u), .int (bts S 12), .int (nI d + 1), .null, .null] [] μ24)) := by
                    refine ⟨vp_in_nI (by omega) (by decide), ?_⟩
                    rw [nI_clamp (by omega), show bts S 12 ||| ((1 : Int32) <<< (nI v &&& 31)) = bts (adB S v) 12 from bts_or (by decide) hv12]
                    have f1 : frPa M (m2_si M kA_tried P.length (nI d)) := ⟨jC_si jC.rf rfl rfl, fun j _ => by rw [si_nc _ _ _ (by decide)], by rw [si_nc _ _ _ (by decide)]⟩
                    have c1 := ih (D := D) (u := v) (S := adB S v) (P := P ++ [d]) (b := mrg b (tvL (dfc (hA ν) (hB ν) (hT ν) (tU (hL ν) (hL ν) c1) (fun d v => dff (hA ν) (hB ν) (hT ν) (tU (hL ν) (hL ν) c1) n g1 (twG (hA ν) (hB ν) (hT ν) (hL ν) n c1 c2 w2 g2) k v (adB S v) (P ++ [d])) u S) d)) (m2_si M kA_tried P.length (nI d)) (by omega) (by simp; omega) hv12 (hf'.tr f1) (fun e he => by
                      rcases List.mem_append.mp he with z | z
                      · exact hP e z
                      · have : e = d := by simpa using z
                        rw [this]; exact hdn) (fun i e hi => by
                      by_cases z : i < P.length
                      · rw [List.getElem?_append_left z] at hi
                        rw [si_nj _ _ _ (by omega), hw i z]
                        exact htr i e hi
                      · have hil : i < P.length + 1 := by
                          have := (List.getElem?_eq_some_iff.mp hi).1
                          simpa using this
                        have e2 : i = P.length := by omega
                        subst e2
                        have : d = e := by simpa using hi
                        rw [← this, si_at]) (hbM.of (fun j => by rw [si_nc _ _ _ (by decide)]) (si_nc _ _ _ (by decide)) (si_nc _ _ _ (by decide)))
                    rw [show (P ++ [d]).length = P.length + 1 by simp] at c1
                    refine ⟨_, c1, fun μ24 h24 => ?_⟩
                    obtain ⟨k1, k2, k3⟩ := h24
                    rw [nI_1]
                    refine ihf (d + 1) μ24 (by omega) (hM.tr (f1.tr k1)) (fun i hi => ?_) ?_
                    · rw [k2 i (by omega), si_nj _ _ _ (by omega)]
                      exact hw i hi
                    · rw [mrg_assoc] at k3
                      show stA (mrg b (mrg _ (dfc (hA ν) (hB ν) (hT ν) _ _ u S d))) μ24
                      rw [dfc_of hU eb hSv]
                      exact k3
                  revert hbM skip call
                  generalize mrg b (tvL (dfc (hA ν) (hB ν) (hT ν) (tU (hL ν) (hL ν) c1) (fun d v => dff (hA ν) (hB ν) (hT ν) (tU (hL ν) (hL ν) c1) n g1 (twG (hA ν) (hB ν) (hT ν) (hL ν) n c1 c2 w2 g2) k v (adB S v) (P ++ [d])) u S) d) = b1
                  intro hbM skip call
                  cases b1 with
                  | none =>
                    have e8 : M.1 kA 8 = nI 11 := hbM
                    rw [e8]
                    refine pk_le 11 (P.length + 1 + dF ν n v g1 + dF ν n w2 g2) (fun y => skip ?_) (fun y => call) rfl rfl (by decide) (by omega)
                    exact mrg_nl (s := P.length + 1 + dF ν n v g1 + dF ν n w2 g2) (fun q0 w => by cases w) (fun _ => y) (fun q hq => ⟨(lo q hq).1, (lo q hq).2.2⟩)
                  | some q0 =>
                    obtain ⟨l1, l2⟩ := hbM.le
                    rw [l2]
                    refine pk_le q0.1 (P.length + 1 + dF ν n v g1 + dF ν n w2 g2) (fun y => skip ?_) (fun y => call) rfl rfl (by omega) (by omega)
                    exact mrg_nl (s := P.length + 1 + dF ν n v g1 + dF ν n w2 g2) (fun q1 w => by cases w; exact y) (fun w => by cases w) (fun q hq => ⟨(lo q hq).1, (lo q hq).2.2⟩)
      have st := main n 0 μ (by omega) frPa.rf (fun _ _ => rfl) hb
      exact B_X5_goOn_0 hκ ⟨fun _ => ⟨fun _ => st, fun w => absurd (nI_lt (a := P.length) (b := 5) (by omega) (by decide)) w⟩, fun w => absurd ((nI_eq (by omega) (by omega)).mp (w.trans ((hf.2.1 9 (by decide)).trans h9))) e⟩
set_option maxHeartbeats 1000000 in
theorem S_pairs {D n p w1 g1 w2 g2 : Nat} {c1 c2 : Bool} (hD : 10 ≤ D) (ν μ : m2M) (h : RLn ν μ n p) (hw1 : w1 < 12) (hg1 : g1 < 12) (hw2 : w2 < 12) (hg2 : g2 < 12) : m2_MT D yX5_search cX5_search 6 (some .int) [.ref kA, .int (nI w1), .int (nI g1), .int (nI w2), .int (nI g2), .int (if (c1 && c2) = true then 1 else 0)] μ (fun r μ' => jC μ μ' ∧ stA (twV (hA ν) (hB ν) (hT ν) (hL ν) n c1 c2 w1 g1 w2 g2) μ' ∧ r = some (.int (match twV (hA ν) (hB ν) (hT ν) (hL ν) n c1 c2 w1 g1 w2 g2 with | none => -1 | some q => nI q.1))) := by
  obtain ⟨D, rfl⟩ : ∃ E, D = E + 1 := ⟨D - 1, by omega⟩
  have hn := h.n20
  refine m2_MT.intro (ls := [.ref kA, .int (nI w1), .int (nI g1), .int (nI w2), .int (nI g2), .int (if (c1 && c2) = true then 1 else 0)]) (by decide +kernel) rfl (ble rfl) (fun κ hκ => ?_)
  have j0 : jC μ (m2_si (m2_si (m2_si (m2_si (m2_si μ kA 9 (nI g1)) kA 10 (nI w2)) kA 11 (nI g2)) kA 13 (if (c1 && c2) = true then 1 else 0)) kA 8 11) := jC_si (jC_si (jC_si (jC_si (jC_si jC.rf rfl rfl) rfl rfl) rfl rfl) rfl rfl) rfl rfl
  have hR0 := j0.R h
  refine B_X5_search_0 hκ ⟨by cases (c1 && c2) <;> simp, _, S_useAbove (m := 0) (by omega) _ hR0.1.1 hn (fun d hd => ⟨(hR0.cl d hd).1, by have := (hR0.cl d hd).2; omega⟩) (by decide), fun μ3 e3 => ?_⟩
  have j3 : jC μ μ3 := by rw [e3]; exact jC_sr j0 (fun _ => rfl) rfl
  have hR3 := j3.R h
  have a3 : ∀ j, μ3.1 kA j = (m2_si (m2_si (m2_si (m2_si (m2_si μ kA 9 (nI g1)) kA 10 (nI w2)) kA 11 (nI g2)) kA 13 (if (c1 && c2) = true then 1 else 0)) kA 8 11).1 kA j := fun j => by rw [e3, m2_sr_ne _ _ (by decide)]
  have e9 : μ3.1 kA 9 = nI g1 := by rw [a3, si_nj _ _ _ (by decide), si_nj _ _ _ (by decide), si_nj _ _ _ (by decide), si_nj _ _ _ (by decide), si_at]
  have e10 : μ3.1 kA 10 = nI w2 := by rw [a3, si_nj _ _ _ (by decide), si_nj _ _ _ (by decide), si_nj _ _ _ (by decide), si_at]
  have e11 : μ3.1 kA 11 = nI g2 := by rw [a3, si_nj _ _ _ (by decide), si_nj _ _ _ (by decide), si_at]
  have e13 : μ3.1 kA 13 = if (c1 && c2) = true then 1 else 0 := by rw [a3, si_nj _ _ _ (by decide), si_at]
  have e8 : μ3.1 kA 8 = 11 := by rw [a3, si_at]
  have c3 : ∀ d, d < n → μ3.1 kR_cost d = if hO ν d = true then 1 else 0 := by
    intro d hd
    rw [e3, m2_sr_same, if_pos hd]
    unfold hO
    by_cases z : 0 < hL ν d
    · rw [if_pos z, if_pos (decide_eq_true z)]
    · rw [if_neg z, if_neg (by simp [z])]
  rw [e11]
  refine ⟨_, S_measureV (by omega) ν μ3 hR3 c3 hg2, fun μ8 h8 => ?_⟩
  obtain ⟨f8, rfl, f8d⟩ := h8
  have q8 : ∀ j, (m2_sr μ3 kR_dist f8).1 kA j = μ3.1 kA j := fun j => by rw [m2_sr_ne _ _ (by decide)]
  rw [q8 10, e10, q8 9, e9, nI_clamp (by omega), m2_sr_same, f8d w2 hw2]
  refine ⟨vp_in_nI hw2 (by decide), ?_⟩
  have j8 : jC μ (m2_si (m2_sr μ3 kR_dist f8) kA 12 (nI (dF ν n w2 g2))) := jC_si (jC_sr j3 (fun _ => rfl) rfl) rfl rfl
  have hR8 := j8.R h
  refine ⟨_, S_measureV (by omega) ν _ hR8 (fun d hd => by rw [si_nc _ _ _ (by decide), m2_sr_ne _ _ (by decide)]; exact c3 d hd) hg1, fun μ14 h14 => ?_⟩
  obtain ⟨f14, rfl, f14d⟩ := h14
  rw [c0_0, show ((12 : Int32)).toNatClampNeg = 12 by decide]
  generalize hX : m2_sr (m2_sr (m2_si (m2_sr μ3 kR_dist f8) kA 12 (nI (dF ν n w2 g2))) kR_dist f14) kA_toGoal _ = X
  have jX : jC μ X := by rw [← hX]; exact jC_sr (jC_sr j8 (fun _ => rfl) rfl) (fun _ => rfl) rfl
  have kX : ∀ j, j ≠ 12 → X.1 kA j = μ3.1 kA j := fun j hj => by rw [← hX, m2_sr_ne _ _ (by decide), m2_sr_ne _ _ (by decide), si_nj _ _ _ hj, m2_sr_ne _ _ (by decide)]
  have x12 : X.1 kA 12 = nI (dF ν n w2 g2) := by rw [← hX, m2_sr_ne _ _ (by decide), m2_sr_ne _ _ (by decide), si_at]
  have xg : ∀ u, u < 12 → X.1 kA_toGoal u = nI (dF ν n u g1) := fun u hu => by
    rw [← hX, m2_sr_same, pk_cpy_in (Nat.zero_le u) (by omega), m2_sr_same, Nat.zero_add, Nat.sub_zero]
    exact f14d u hu
  have call := S_pairsOn (c1 := c1) (c2 := c2) ν X (jX.R h) hg1 hw2 hg2 ((kX 9 (by decide)).trans e9) ((kX 10 (by decide)).trans e10) ((kX 11 (by decide)).trans e11) x12 ((kX 13 (by decide)).trans e13) xg 5 (D := D) (u := w1) (S := eqB w1) (P := []) (b := none) X (by omega) rfl hw1 frPa.rf (fun d hd => by simp at hd) (fun i d hi => by simp at hi) ((kX 8 (by decide)).trans e8)
  have eb1 : (1 : Int32) <<< (nI w1 &&& 31) = bts (eqB w1) 12 := bts_one (by decide) hw1
  rw [eb1]
  refine ⟨_, call, fun μ24 h24 => ?_⟩
  obtain ⟨k1, k2, k3⟩ := h24
  rw [mrg_none] at k3
  have k3 : stA (twV (hA ν) (hB ν) (hT ν) (hL ν) n c1 c2 w1 g1 w2 g2) μ24 := k3
  refine ⟨jX.tr k1.1, k3, ?_⟩
  revert k3
  cases twV (hA ν) (hB ν) (hT ν) (hL ν) n c1 c2 w1 g1 w2 g2 with
  | none =>
    intro k3
    have k3 : μ24.1 kA 8 = 11 := k3
    rw [k3]
    rfl
  | some q =>
    intro k3
    obtain ⟨l1, l2⟩ := k3.le
    rw [l2, if_neg (show ¬ (11 : Int32) ≤ nI q.1 from nI_ge (a := q.1) (b := 11) (by omega) (by decide))]
