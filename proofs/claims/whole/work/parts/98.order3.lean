/-! order: the reference -/
theorem oky_lt {w t bw bt : Nat} (h1 : w ≤ 792) (h2 : bw ≤ 792) (h3 : t ≤ 300) (h4 : bt ≤ 300) : oky w t < oky bw bt ↔ bw < w ∨ (w = bw ∧ t < bt) := by
  unfold oky
  omega
def stO (b : tB) (M : m2M) : Prop := match b with
  | none => M.1 kM 48 = -1
  | some q => ∃ w t : Nat, q.1 = oky w t ∧ w ≤ 792 ∧ t ≤ 300 ∧ M.1 kM 48 = nI w ∧ M.1 kM 49 = nI t ∧ q.2.length ≤ 6 ∧ ∀ i r, q.2[i]? = some r → M.1 kM_bestLine i = nI r
theorem stO.of {b : tB} {M M' : m2M} (h : stO b M) (h1 : M'.1 kM 48 = M.1 kM 48) (h2 : M'.1 kM 49 = M.1 kM 49) (h3 : M'.1 kM_bestLine = M.1 kM_bestLine) : stO b M' := by
  cases b with
  | none => exact h1.trans h
  | some q =>
    obtain ⟨w, t, a1, a2, a3, a4, a5, a6, a7⟩ := h
    exact ⟨w, t, a1, a2, a3, h1.trans a4, h2.trans a5, a6, fun i r hi => by rw [h3]; exact a7 i r hi⟩
theorem wdN_792 {ν μ : m2M} {n p : Nat} (h : RLn ν μ n p) : wdN ν p ≤ 792 := by
  have hp8 := h.p8
  rw [wdN_sum]
  have := bf_sum_b (f := fun q => if ν.1 kM_isDone q = 0 then 0 else woN ν q) (b := 99) (N := p) (fun i hi => by
    have := (h.wo hi).2
    show (if ν.1 kM_isDone i = 0 then 0 else woN ν i) ≤ 99
    split <;> omega)
  omega
set_option maxHeartbeats 2000000 in
theorem S_orderFrom {n p pl : Nat} (ν μ0 : m2M) (h : RLn ν μ0 n p) (hpl : pl < 4) : ∀ (kk : Nat) {D : Nat} {S : Nat → Bool} {P : List Nat} {b : tB} (μ : m2M), kk + 410 ≤ D → okS ν p S P → cnb S 12 = kk → P.length + kk ≤ 6 → vM ν μ → stO b μ → (∀ i r, P[i]? = some r → μ.1 kM_line i = nI r) → m2_MT D yX12_orderFrom cX12_orderFrom 5 none [.ref kM, .int (nI P.length), .int (bts S 12), .int (nI pl)] μ (fun _ μ' => vM ν μ' ∧ frM μ μ' ∧ (∀ i, i < P.length → μ'.1 kM_line i = μ.1 kM_line i) ∧ stO (mrg b (odV n p pl ν kk S P)) μ') := by
  have hp8 := h.p8
  intro kk
  induction kk with
  | zero =>
    intro D S P b μ hD hS hc hk hv hb hl
    obtain ⟨D, rfl⟩ : ∃ E, D = E + 1 := ⟨D - 1, by omega⟩
    have e0 : bts S 12 = 0 := bts_z.mpr (fun i hi => cnb_z hc i hi)
    refine m2_MT.intro (ls := [.ref kM, .int (nI P.length), .int (bts S 12), .int (nI pl), .null]) (by decide +kernel) rfl (ble rfl) (fun κ hκ => ?_)
    refine B_X12_orderFrom_0 hκ ⟨fun _ => ⟨_, S_putBy3 (by omega) ν μ hv, fun μ3 h3 => ⟨fun _ μ' => μ' = m2_si (m2_si μ3 kM 44 0) kM 45 0, ?_, fun μ8 e8 => ?_⟩⟩, fun w => absurd e0 w⟩
    · refine m2_MT.intro (ls := [.ref kM]) (by decide +kernel) rfl (ble rfl) (fun κ hk => ?_)
      exact B_X12_beginDay_0 hk rfl
    obtain ⟨v3, f3, p3, c3⟩ := h3
    have pt8 : pt3 ν μ8 := fun j j1 j2 => by rw [e8, si_nc _ _ _ (by decide), si_nc _ _ _ (by decide)]; exact p3 j j1 j2
    have v8 : vM ν μ8 := by rw [e8]; exact vM_si rfl (vM_si rfl v3)
    have f8 : frM μ μ8 := by rw [e8]; exact fr_si rfl (fr_si rfl f3)
    have l8 : μ8.1 kM_line = μ.1 kM_line := by rw [e8, si_nc _ _ _ (by decide), si_nc _ _ _ (by decide)]; exact c3 _ (by decide)
    have b8 : μ8.1 kM_bestLine = μ.1 kM_bestLine := by rw [e8, si_nc _ _ _ (by decide), si_nc _ _ _ (by decide)]; exact c3 _ (by decide)
    have k8 : ∀ j, j ≠ 44 → j ≠ 45 → μ8.1 kM j = μ.1 kM j := fun j a b => by rw [e8, si_nj _ _ _ b, si_nj _ _ _ a]; exact congrFun (c3 kM (by decide)) j
    have t8 : μ8.1 kM 44 = nI 0 := by rw [e8, si_nj _ _ _ (by decide), si_at]; rfl
    refine dn (n := P.length) (G := fun i => ∀ M, vM (lnS n p pl ν (P.take i)).1 M → frD μ8 M → M.1 kM 44 = nI (lnS n p pl ν (P.take i)).2 → κ 70 [.ref kM, .int (nI P.length), .int (bts S 12), .int (nI pl), .int (nI i)] [] M) (fun M hM hf ht => ?_) (fun i hi ih M hM hf ht => ?_) μ8 (by rw [List.take_zero]; exact v8) frD.rf (by rw [List.take_zero]; exact t8)
    · rw [List.take_length] at hM ht
      obtain ⟨⟨⟨μ', hR'⟩, _⟩, mv, lt, _⟩ := lnS_ok (pl := pl) h P hS.2
      have hw := wdN_792 hR'
      refine B_X12_orderFrom_70 hκ ⟨fun _ => ⟨_, S_endDay _ M μ' hR' hM, fun μ4 e4 => ?_⟩, fun w => absurd (nI_le (Nat.le_refl _) (by omega)) w⟩
      have v4 : vM (lnS n p pl ν P).1 μ4 := by rw [e4]; exact vM_si rfl (vM_si rfl hM)
      have pt4 : pt3 ν μ4 := fun j j1 j2 => by
        rw [e4, si_nc _ _ _ (by decide), si_nc _ _ _ (by decide), (hf.1 kM_put rfl).1]
        exact pt8 j j1 j2
      refine ⟨_, S_bring3 (by omega) ν _ μ4 μ0 h mv v4 pt4, fun μ9 h9 => ?_⟩
      obtain ⟨v9, f9, k9, c9⟩ := h9
      have e43 : μ9.1 kM 43 = nI (wdN (lnS n p pl ν P).1 p) := by rw [k9 43 (by decide), e4, si_at]
      have e44 : μ9.1 kM 44 = nI (lnS n p pl ν P).2 := by rw [k9 44 (by decide), e4, si_nj _ _ _ (by decide), si_nj _ _ _ (by decide)]; exact ht
      have e48 : μ9.1 kM 48 = μ.1 kM 48 := by rw [k9 48 (by decide), e4, si_nj _ _ _ (by decide), si_nj _ _ _ (by decide), hf.2 48 rfl (by decide) (by decide)]; exact k8 48 (by decide) (by decide)
      have e49 : μ9.1 kM 49 = μ.1 kM 49 := by rw [k9 49 (by decide), e4, si_nj _ _ _ (by decide), si_nj _ _ _ (by decide), hf.2 49 rfl (by decide) (by decide)]; exact k8 49 (by decide) (by decide)
      have l9 : μ9.1 kM_line = μ.1 kM_line := by rw [c9 kM_line (by decide) (by decide) (by decide) (by decide) (by decide), e4, si_nc _ _ _ (by decide), si_nc _ _ _ (by decide), (hf.1 kM_line rfl).1]; exact l8
      have b9 : μ9.1 kM_bestLine = μ.1 kM_bestLine := by rw [c9 kM_bestLine (by decide) (by decide) (by decide) (by decide) (by decide), e4, si_nc _ _ _ (by decide), si_nc _ _ _ (by decide), (hf.1 kM_bestLine rfl).1]; exact b8
      have fm9 : frM μ μ9 := (f8.tr hf.m).tr ((by rw [e4]; exact fr_si rfl (fr_si rfl fr.rf) : frM M μ4).tr f9)
      have wr : mrg b (odV n p pl ν 0 S P) = some (oky (wdN (lnS n p pl ν P).1 p) (lnS n p pl ν P).2, P) → κ 163 [.ref kM, .int (nI P.length), .int (bts S 12), .int (nI pl), .int 0] [] (m2_si (m2_si μ9 kM 48 (μ9.1 kM 43)) kM 49 (μ9.1 kM 44)) := by
        intro em
        rw [e43, e44]
        refine dn (n := P.length) (G := fun i => ∀ M, vM ν M → frM μ M → M.1 kM_line = μ.1 kM_line → M.1 kM 48 = nI (wdN (lnS n p pl ν P).1 p) → M.1 kM 49 = nI (lnS n p pl ν P).2 → (∀ j r, j < i → P[j]? = some r → M.1 kM_bestLine j = nI r) → κ 163 [.ref kM, .int (nI P.length), .int (bts S 12), .int (nI pl), .int (nI i)] [] M) (fun M a1 a2 a3 a4 a5 a6 => ?_) (fun i hi ih M a1 a2 a3 a4 a5 a6 => ?_) _ (vM_si rfl (vM_si rfl v9)) (fr_si rfl (fr_si rfl fm9)) ?_ ?_ ?_ (fun j r hj => absurd hj (Nat.not_lt_zero j))
        · refine B_X12_orderFrom_163 hκ ⟨fun _ => ⟨a1, a2, fun i _ => by rw [a3], ?_⟩, fun w => absurd (nI_le (Nat.le_refl _) (by omega)) w⟩
          rw [em]
          exact ⟨_, _, rfl, hw, by omega, a4, a5, by show P.length ≤ 6; omega, fun j r hj => a6 j r (List.getElem?_eq_some_iff.mp hj).1 hj⟩
        · refine B_X12_orderFrom_163 hκ ⟨fun w => absurd w (nI_ge hi (by omega)), fun _ => ⟨vp_in_nI (by omega) (by decide), ?_⟩⟩
          rw [nI_clamp (by omega), nI_1]
          refine ih _ (vM_si rfl a1) (fr_si rfl a2) ?_ ?_ ?_ (fun j r hj hjr => ?_)
          · rw [si_nc _ _ _ (by decide)]; exact a3
          · rw [si_nc _ _ _ (by decide)]; exact a4
          · rw [si_nc _ _ _ (by decide)]; exact a5
          · by_cases z : j = i
            · subst z
              rw [si_at, a3]
              exact hl j r hjr
            · rw [si_nj _ _ _ z]
              exact a6 j r (by omega) hjr
        · rw [si_nc _ _ _ (by decide), si_nc _ _ _ (by decide)]; exact l9
        · rw [si_nj _ _ _ (by decide), si_at]
        · rw [si_at]
      have no : mrg b (odV n p pl ν 0 S P) = b → vM ν μ9 ∧ frM μ μ9 ∧ (∀ i, i < P.length → μ9.1 kM_line i = μ.1 kM_line i) ∧ stO (mrg b (odV n p pl ν 0 S P)) μ9 := fun em => ⟨v9, fm9, fun i _ => by rw [l9], by rw [em]; exact hb.of e48 e49 b9⟩
      cases b with
      | none =>
        have hb : μ.1 kM 48 = -1 := hb
        exact ⟨fun _ => wr rfl, fun w => absurd (e48.trans hb) w⟩
      | some q0 =>
        obtain ⟨bw, bt, a1, a2, a3, a4, a5, a6, a7⟩ := hb
        have lt1 := oky_lt (w := wdN (lnS n p pl ν P).1 p) (t := (lnS n p pl ν P).2) hw a2 (by omega) a3
        have yes : oky (wdN (lnS n p pl ν P).1 p) (lnS n p pl ν P).2 < oky bw bt → mrg (some q0) (odV n p pl ν 0 S P) = some (oky (wdN (lnS n p pl ν P).1 p) (lnS n p pl ν P).2, P) := fun z => if_pos (by rw [a1]; exact z)
        have nay : ¬ oky (wdN (lnS n p pl ν P).1 p) (lnS n p pl ν P).2 < oky bw bt → mrg (some q0) (odV n p pl ν 0 S P) = some q0 := fun z => if_neg (by rw [a1]; exact z)
        rw [e48, a4] at *
        refine ⟨fun w => absurd w (nI_ne_m1 (by omega)), fun _ => ?_⟩
        rw [e43]
        refine pk_lt (wdN (lnS n p pl ν P).1 p) bw (fun z => no (nay (fun y => by have := lt1.mp y; omega))) (fun z => ?_) rfl rfl (by omega) (by omega)
        refine ⟨fun y => ?_, fun y => ?_⟩
        · rw [← e43]
          refine wr (yes (lt1.mpr (Or.inl ?_)))
          have : wdN (lnS n p pl ν P).1 p ≠ bw := fun q => y (by rw [q])
          omega
        · have y' := (nI_eq (by omega) (by omega)).mp y
          rw [e44, e49, a5]
          refine pk_lt (lnS n p pl ν P).2 bt (fun x => ?_) (fun x => no (nay (fun q => by have := lt1.mp q; omega))) rfl rfl (by omega) (by omega)
          rw [← e43, ← e44]
          exact wr (yes (lt1.mpr (Or.inr ⟨y', x⟩)))
    · obtain ⟨q, eq⟩ : ∃ q, P[i]? = some q := ⟨P[i], List.getElem?_eq_getElem hi⟩
      have hm := List.mem_of_getElem? eq
      obtain ⟨hq, hg⟩ := hS.2 q hm
      obtain ⟨⟨⟨μ', hR'⟩, _⟩, _, _, _⟩ := lnS_ok (pl := pl) h (P.take i) (fun r hr => hS.2 r (List.mem_of_mem_take hr))
      have e : P.take (i + 1) = P.take i ++ [q] := by rw [List.take_add_one, eq]; rfl
      have lM : M.1 kM_line i = nI q := by rw [(hf.1 kM_line rfl).1, l8]; exact hl i q eq
      refine B_X12_orderFrom_70 hκ ⟨fun w => absurd w (nI_ge hi (by omega)), fun _ => ⟨vp_in_nI (by omega) (by decide), ?_⟩⟩
      rw [nI_clamp (by omega), lM, nI_1]
      refine ⟨_, S_dayOf (by omega) _ M μ' hR' hM hq hpl, fun μ19 h19 => ?_⟩
      obtain ⟨x1, x2, x3, _⟩ := h19
      refine ih μ19 ?_ (hf.tr x2) ?_
      · rw [e, lnS_s]; exact x1
      · rw [e, lnS_s, x3, ht, nI_add]
  | succ kk ih =>
    intro D S P b μ hD hS hc hk hv hb hl
    obtain ⟨D, rfl⟩ : ∃ E, D = E + 1 := ⟨D - 1, by omega⟩
    have e0 : ¬ bts S 12 = 0 := fun e => by
      have := cnb_f0 (bts_z.mp e)
      omega
    refine m2_MT.intro (ls := [.ref kM, .int (nI P.length), .int (bts S 12), .int (nI pl), .null]) (by decide +kernel) rfl (ble rfl) (fun κ hκ => ?_)
    refine B_X12_orderFrom_0 hκ ⟨fun w => absurd w e0, fun _ => ?_⟩
    refine dn (n := p) (G := fun q => ∀ M, vM ν M → frM μ M → (∀ i, i < P.length → M.1 kM_line i = μ.1 kM_line i) → stO (mrg b (tvL (fun q => if S q = true then odV n p pl ν kk (rmB S q) (P ++ [q]) else none) q)) M → κ 7 [.ref kM, .int (nI P.length), .int (bts S 12), .int (nI pl), .int (nI q)] [] M) (fun M a1 a2 a3 a4 => ?_) (fun q hq ihf M a1 a2 a3 a4 => ?_) μ hv fr.rf (fun _ _ => rfl) hb
    · have e7 : M.1 kM 7 = nI p := (a1.1 kM 7 rfl rfl).trans h.2.1.2.1
      exact B_X12_orderFrom_7 hκ (Nat.zero_le _) ⟨fun _ => ⟨a1, a2, a3, a4⟩, fun w => absurd (by rw [e7]; exact nI_le (Nat.le_refl _) (by omega)) w⟩
    · have e7 : M.1 kM 7 = nI p := (a1.1 kM 7 rfl rfl).trans h.2.1.2.1
      have step : mrg b (tvL (fun q => if S q = true then odV n p pl ν kk (rmB S q) (P ++ [q]) else none) (q + 1)) = mrg (mrg b (tvL (fun q => if S q = true then odV n p pl ν kk (rmB S q) (P ++ [q]) else none) q)) (if S q = true then odV n p pl ν kk (rmB S q) (P ++ [q]) else none) := (mrg_assoc _ _ _).symm
      refine B_X12_orderFrom_7 hκ (Nat.zero_le _) ⟨fun w => absurd (by rw [e7] at w; exact w) (nI_ge hq (by omega)), fun _ => ⟨fun w => ⟨vp_in_nI (by omega) (by decide), ?_⟩, fun w => ?_⟩⟩
      · have hSq := (has12 (by omega)).mp w
        rw [nI_clamp (by omega), bts_rm (by omega), nI_1, nI_1]
        have call := ih (D := D) (S := rmB S q) (P := P ++ [q]) (b := mrg b (tvL (fun q => if S q = true then odV n p pl ν kk (rmB S q) (P ++ [q]) else none) q)) (m2_si M kM_line P.length (nI q)) (by omega) (hS.rm hSq) (by have := cnb_rm hSq (by omega); omega) (by simp; omega) (vM_si rfl a1) (a4.of (by rw [si_nc _ _ _ (by decide)]) (by rw [si_nc _ _ _ (by decide)]) (si_nc _ _ _ (by decide))) (fun i r hr => by
          by_cases e : i < P.length
          · rw [List.getElem?_append_left e] at hr
            rw [si_nj _ _ _ (by omega), a3 i e]
            exact hl i r hr
          · have hil : i < P.length + 1 := by
              have := (List.getElem?_eq_some_iff.mp hr).1
              simpa using this
            have e2 : i = P.length := by omega
            subst e2
            have : q = r := by simpa using hr
            rw [← this, si_at])
        rw [show (P ++ [q]).length = P.length + 1 by simp] at call
        refine ⟨_, call, fun μ11 h11 => ?_⟩
        obtain ⟨g1, g2, g3, g4⟩ := h11
        refine ihf μ11 g1 (a2.tr ((fr_si rfl fr.rf).tr g2)) (fun i hi => ?_) ?_
        · rw [g3 i (by omega), si_nj _ _ _ (by omega)]
          exact a3 i hi
        · rw [step, if_pos hSq]
          exact g4
      · have hSq : ¬ S q = true := fun e => w ((has12 (by omega)).mpr e)
        rw [nI_1]
        refine ihf M a1 a2 a3 ?_
        rw [step, if_neg hSq]
        exact a4
