/-! price: read -/
def okP (g : Nat → Int32) (k : Nat) : Prop := k = 0 ∨ ((cp g k 400 0 0 0).1 = true ∧ (cp g k 400 0 0 0).2.1 = k)
def rwP (g : Nat → Int32) (k : Nat) : List Int32 := if k = 0 then [] else (cp g k 400 0 0 0).2.2
theorem frX.tx {μ M : m2M} {g : Nat → Int32} (h : frX μ M) (tx : txC μ g) : txC M g := fun i hi => by
  rw [(h.1 kC_text rfl).1]
  exact tx i hi
theorem min_40 {k : Nat} (hk : k ≤ 80) : m2_min (nI k) 40 = nI (min k 40) := by
  unfold m2_min
  by_cases z : 40 < k
  · rw [if_pos (show (40 : Int32) < nI k from nI_lt (a := 40) z (by omega)), Nat.min_eq_right (by omega)]
    rfl
  · rw [if_neg (show ¬ (40 : Int32) < nI k from nI_nlt (a := 40) (by omega) (by decide)), Nat.min_eq_left (by omega)]
theorem nm_nd {c : Int32} (h : cp_nm c ≠ 0) : ¬ cp_dg c = true ∧ c ≠ 45 ∧ c ≠ 40 ∧ c ≠ -1 := by
  rcases nmcases h with ⟨e, _⟩ | ⟨e, _⟩ | ⟨e, _⟩ | ⟨e, _⟩ | ⟨e, _⟩ | ⟨e, _⟩ <;> rw [e] <;> decide
set_option maxRecDepth 100000 in
set_option maxHeartbeats 4000000 in
theorem S_readP {D k : Nat} {g : Nat → Int32} (hD : 8 ≤ D) (μ : m2M) (tx : txC μ g) (hk80 : k ≤ 80) : m2_MTs D yX7_read cX7_read 4 (some .int) [.ref kE, .int (nI k)] μ (fun r μ' =>
    (okP g k ∧ r = some (.int 0) ∧ ∃ μ6 f, frX μ μ6 ∧ μ' = m2_si (m2_si (m2_sr μ6 kE_code f) kE 3 (if (-6) ∈ rwP g k then 1 else 0)) kE 2 (nI (rwP g k).length) ∧ (rwP g k).length ≤ 40 ∧ ∀ i c, (rwP g k)[i]? = some c → f i = c) ∨
    (¬ okP g k ∧ r = some (.int (-1 - nI (cp g k 400 0 0 0).2.1)) ∧ frX μ μ')) := by
  obtain ⟨D, rfl⟩ : ∃ E, D = E + 1 := ⟨D - 1, by omega⟩
  refine m2_MTs.intro (ls := [.ref kE, .int (nI k), .null, .null]) (by decide +kernel) rfl (ble rfl) (fun κ hs => ?_)
  have hk := hs.rl
  have hmin : min k 40 ≤ 40 := Nat.min_le_right _ _
  -- at the end of the text
  have endK : ∀ {a o ws e cm w M} (i : Nat), xS μ k a o ws e cm w M → min k 40 ≤ a → κ 121 [.ref kE, .int (nI k), .int 1, .int (nI i)] [] M → κ 57 [.ref kE, .int (nI k), .int 1, .int (nI i)] [] M := by
    intro a o ws e cm w M i hx hla h121
    obtain ⟨hT, hW, h11, h12, hl, hle⟩ := hx
    exact Bs_X7_read_57 hs ⟨fun _ => h121, fun _ => ⟨fun q => absurd q (by decide), fun _ => ⟨fun _ => h121, fun q => absurd (by rw [hT.2.2.2.2, h11]; exact nI_le hla (by omega)) q⟩⟩⟩
  have fail : ∀ (a i : Nat) (M : m2M), (∀ M v2 v3, frX μ M → M.1 kE 11 = nI a → κ 145 [.ref kE, .int (nI k), .int v2, .int v3] [] M) → frX μ M → M.1 kE 11 = nI a → κ 57 [.ref kE, .int (nI k), .int 0, .int (nI i)] [] M := by
    intro a i M hF hM h11
    have h121 : κ 121 [.ref kE, .int (nI k), .int 0, .int (nI i)] [] M := B_X7_read_121 hk ⟨fun _ => hF M _ _ hM h11, fun q => absurd rfl q⟩
    exact Bs_X7_read_57 hs ⟨fun _ => h121, fun _ => ⟨fun _ => h121, fun q => absurd rfl q⟩⟩
  have thing : ∀ {a o ws e cm M} (i : Nat), i ≤ a → xS μ k a o ws e cm true M → a < min k 40 → (∀ (y : Int32) (M' : m2M), ((cp_dg (cp_h g k a) = true ∧ some (Value.int y) = some (.int 1) ∧ xS μ k (cp_n g k 3 a 0).2 (o ++ [(cp_n g k 3 a 0).1]) ws e cm false M') ∨
      (¬ cp_dg (cp_h g k a) = true ∧ cp_nm (cp_h g k a) ≠ 0 ∧ some (Value.int y) = some (.int 1) ∧ xS μ k (a + 1) (o ++ [cp_nm (cp_h g k a)]) ws e cm false M') ∨
      (cp_h g k a = 45 ∧ some (Value.int y) = some (.int 1) ∧ xS μ k (a + 1) o (256 :: ws) e cm true M') ∨
      (cp_h g k a = 40 ∧ e < 4 ∧ some (Value.int y) = some (.int 1) ∧ xS μ k (a + 1) o (40 :: ws) (e + 1) (upB cm (e + 1) false) true M') ∨
      (¬ cp_h g k a = 45 ∧ ¬ (cp_h g k a = 40 ∧ e < 4) ∧ ¬ cp_dg (cp_h g k a) = true ∧ cp_nm (cp_h g k a) = 0 ∧ some (Value.int y) = some (.int 0) ∧ M' = M)) → κ 57 [.ref kE, .int (nI k), .int y, .int (nI (i + 1))] [] M') → κ 57 [.ref kE, .int (nI k), .int 1, .int (nI i)] [] M := by
    intro a o ws e cm M i hi hx ha kk
    obtain ⟨hT, hW, h11, h12, hl, hle⟩ := id hx
    obtain ⟨b, hb, t1, t2⟩ := tx a (by omega)
    have tM : M.1 kC_text a = nI b := by rw [(hT.1.1 kC_text rfl).1]; exact t1
    refine Bs_X7_read_57 hs ⟨fun q => absurd q (nI_ge (b := 40) (by omega) (by decide)), fun _ => ⟨fun q => absurd q (by decide), fun _ => ?_⟩⟩
    rw [hT.2.2.2.2, h11, h12, nI_clamp (by omega), tM, nI_1]
    exact ⟨fun q => absurd q (nI_ge ha (by omega)), fun _ => ⟨fun q => absurd q (by decide), fun _ => ⟨vp_in_nI (by omega) (by decide), _, S_readThing (by omega) μ M (hT.1.tx tx) hx ha hb (by rw [hP_in ha]; exact t2), fun y M' hq => kk y M' hq⟩⟩⟩
  have joint : ∀ {a o ws e cm M} (i : Nat), i ≤ a → xS μ k a o ws e cm false M → a < min k 40 → (∀ b : Nat, b < 256 → cp_h g k a = (nI b).toInt8.toInt32 → ∃ Q9 : Option Value → m2M → Prop, m2_MT D yX7_readJoint cX7_readJoint 3 (some .boolean) [.ref kE, .int (nI b)] M Q9 ∧ ∀ (y : Int32) (M' : m2M), Q9 (some (.int y)) M' → κ 57 [.ref kE, .int (nI k), .int y, .int (nI (i + 1))] [] M') → κ 57 [.ref kE, .int (nI k), .int 1, .int (nI i)] [] M := by
    intro a o ws e cm M i hi hx ha kk
    obtain ⟨hT, hW, h11, h12, hl, hle⟩ := id hx
    obtain ⟨b, hb, t1, t2⟩ := tx a (by omega)
    have tM : M.1 kC_text a = nI b := by rw [(hT.1.1 kC_text rfl).1]; exact t1
    refine Bs_X7_read_57 hs ⟨fun q => absurd q (nI_ge (b := 40) (by omega) (by decide)), fun _ => ⟨fun q => absurd q (by decide), fun _ => ?_⟩⟩
    rw [hT.2.2.2.2, h11, h12, nI_clamp (by omega), tM, nI_1]
    exact ⟨fun q => absurd q (nI_ge ha (by omega)), fun _ => ⟨fun _ => ⟨vp_in_nI (by omega) (by decide), kk b hb (by rw [hP_in ha]; exact t2)⟩, fun q => absurd rfl q⟩⟩
  -- the next sign, by rules
  have hR : rdS g k (fun a o ws e cm w => ∀ (M : m2M) (i : Nat), i ≤ a → xS μ k a o ws e cm w M → κ 57 [.ref kE, .int (nI k), .int 1, .int (nI i)] [] M) (fun a => ∀ M v2 v3, frX μ M → M.1 kE 11 = nI a → κ 145 [.ref kE, .int (nI k), .int v2, .int v3] [] M) := by
    refine ⟨?_, ?_, ?_, ?_, ?_, ?_, ?_, ?_⟩
    · intro a o ws e cm hd hK M i hi hx
      have hl := hT_lt (k := k) (g := g) (top := 40) (a := a) (dg_ne hd)
      refine thing i hi hx (by omega) (fun y M' hq => ?_)
      rcases hq with ⟨_, q2, q3⟩ | ⟨q1, _⟩ | ⟨q1, _⟩ | ⟨q1, _⟩ | ⟨_, _, q1, _⟩
      · cases q2
        have ex : cp_n g k 3 a 0 = cp_n g k 2 (a + 1) (10 * 0 + cp_h g k a - 48) := by
          show cp_nH _ _ _ _ = _
          rw [cp_nH, if_pos hd]
        have np : a + 1 ≤ (cp_n g k 2 (a + 1) (10 * 0 + cp_h g k a - 48)).2 := (nH_pos (top := 40) (k := k) (g := g) 2 (a + 1) (10 * 0 + cp_h g k a - 48) (by omega)).1
        exact hK M' (i + 1) (by rw [ex]; omega) q3
      · exact absurd hd q1
      · rw [q1] at hd; exact absurd hd (by decide)
      · rw [q1] at hd; exact absurd hd (by decide)
      · exact absurd hd q1
    · intro a o ws e cm hd hK M i hi hx
      obtain ⟨n1, n2, n3, n4⟩ := nm_nd hd
      have hl := hT_lt (k := k) (g := g) (top := 40) (a := a) n4
      refine thing i hi hx (by omega) (fun y M' hq => ?_)
      rcases hq with ⟨q1, _⟩ | ⟨_, _, q2, q3⟩ | ⟨q1, _⟩ | ⟨q1, _⟩ | ⟨_, _, _, q1, _⟩
      · exact absurd q1 n1
      · cases q2
        exact hK M' (i + 1) (by omega) q3
      · exact absurd q1 n2
      · exact absurd q1 n3
      · exact absurd q1 hd
    · intro a o ws e cm hd hK M i hi hx
      have hl := hT_lt (k := k) (g := g) (top := 40) (a := a) (by show cp_h g k a ≠ -1; rw [hd]; decide)
      refine thing i hi hx (by omega) (fun y M' hq => ?_)
      rcases hq with ⟨q1, _⟩ | ⟨_, q1, _⟩ | ⟨_, q2, q3⟩ | ⟨q1, _⟩ | ⟨q1, _⟩
      · rw [hd] at q1; exact absurd q1 (by decide)
      · rw [hd] at q1; exact absurd (by decide) q1
      · cases q2
        exact hK M' (i + 1) (by omega) q3
      · rw [hd] at q1; exact absurd q1 (by decide)
      · exact absurd hd q1
    · intro a o ws e cm hd he hK M i hi hx
      have hl := hT_lt (k := k) (g := g) (top := 40) (a := a) (by show cp_h g k a ≠ -1; rw [hd]; decide)
      refine thing i hi hx (by omega) (fun y M' hq => ?_)
      rcases hq with ⟨q1, _⟩ | ⟨_, q1, _⟩ | ⟨q1, _⟩ | ⟨_, _, q2, q3⟩ | ⟨_, q1, _⟩
      · rw [hd] at q1; exact absurd q1 (by decide)
      · rw [hd] at q1; exact absurd (by decide) q1
      · rw [hd] at q1; exact absurd q1 (by decide)
      · cases q2
        exact hK M' (i + 1) (by omega) q3
      · exact absurd ⟨hd, he⟩ q1
    · intro a o ws e cm n1 n2 n3 n4 hF M i hi hx
      obtain ⟨hT, hW, h11, h12, hl, hle⟩ := id hx
      by_cases hla : a < min k 40
      · refine thing i hi hx hla (fun y M' hq => ?_)
        rcases hq with ⟨q1, _⟩ | ⟨_, q1, _⟩ | ⟨q1, _⟩ | ⟨q1, q2, _⟩ | ⟨_, _, _, _, q2, q3⟩
        · exact absurd q1 n3
        · exact absurd n4 q1
        · exact absurd q1 n1
        · exact absurd ⟨q1, q2⟩ n2
        · cases q2
          subst q3
          exact fail a (i + 1) _ hF hT.1 h11
      · refine endK i hx (by omega) ?_
        refine B_X7_read_121 hk ⟨fun q => absurd q (by decide), fun _ => ⟨fun _ => hF M _ _ hT.1 h11, fun _ => ⟨fun _ => hF M _ _ hT.1 h11, fun q => absurd q (by rw [h12]; decide)⟩⟩⟩
    · intro a o pd ws e cm hd he hp hK M i hi hx
      have hl := hT_lt (k := k) (g := g) (top := 40) (a := a) (by show cp_h g k a ≠ -1; rw [hd]; decide)
      refine joint i hi hx (by omega) (fun b hb eb => ⟨_, S_jC (by omega) μ M hx (by omega) hb eb hd hp, fun y M' hq => ?_⟩)
      obtain ⟨q1, q2⟩ := hq
      cases q1
      exact hK M' (i + 1) (by omega) q2
    · intro a o pd ws e cm hd hc he hp hw hK M i hi hx
      have hl := hT_lt (k := k) (g := g) (top := 40) (a := a) (by
        show cp_h g k a ≠ -1
        intro q
        rw [q] at hd
        exact absurd hd (by decide))
      refine joint i hi hx (by omega) (fun b hb eb => ⟨_, S_jJ (by omega) μ M hx (by omega) hb eb hd hc hp hw, fun y M' hq => ?_⟩)
      obtain ⟨q1, q2⟩ := hq
      cases q1
      exact hK M' (i + 1) (by omega) q2
    · intro a o ws e cm n1 n2 he hF M i hi hx
      obtain ⟨hT, hW, h11, h12, hl, hle⟩ := id hx
      by_cases hla : a < min k 40
      · refine joint i hi hx hla (fun b hb eb => ⟨_, S_jX (by omega) μ M hx hb eb (Or.inr ⟨n1, n2⟩), fun y M' hq => ?_⟩)
        obtain ⟨q1, q2⟩ := hq
        cases q1
        subst q2
        exact fail a (i + 1) _ hF hT.1 h11
      · refine endK i hx (by omega) ?_
        exact B_X7_read_121 hk ⟨fun q => absurd q (by decide), fun _ => ⟨fun _ => hF M _ _ hT.1 h11, fun _ => ⟨fun _ => hF M _ _ hT.1 h11, fun _ => ⟨fun q => absurd q (by rw [hT.2.1]; exact nI_nle (by omega) (by omega)), fun _ => hF M _ _ hT.1 h11⟩⟩⟩⟩
  -- all of it is right
  have good : ∀ {a o pd cm M} (i : Nat), xS μ k a o pd 0 cm false M → min k 40 ≤ a → k ≤ 40 → okP g k → rkA 1 pd → o ++ ngL pd = rwP g k → κ 57 [.ref kE, .int (nI k), .int 1, .int (nI i)] [] M := by
    intro a o pd cm M i hx hla hk40 hok hp hrow
    obtain ⟨hT, hW, h11, h12, hl, hle⟩ := id hx
    have hl2 : (rwP g k).length ≤ 40 := by
      rw [← hrow, List.length_append]
      have : (ngL pd).length = pd.length := by unfold ngL; simp
      omega
    refine endK i hx hla ?_
    have hW' : xW o (pd ++ []) M := by rw [List.append_nil]; exact hW
    refine B_X7_read_121 hk ⟨fun q => absurd q (by decide), fun _ => ⟨fun q => absurd q (nI_nlt (a := 40) hk40 (by decide)), fun _ => ⟨fun q => absurd h12 q, fun _ => ⟨fun _ => ⟨_, S_release (r := 1) (ws := []) (by omega) (by decide) (by decide) M hW' (by rw [List.append_nil]; omega) hp trivial, fun μ6 h6 => ?_⟩, fun q => absurd (by rw [hT.2.1]; decide) q⟩⟩⟩⟩
    obtain ⟨x1, x2⟩ := h6
    rw [hrow] at x1
    refine ⟨_, S_adoptP μ6 hl2 x1.1 x1.2.1, fun μ11 h11' => ?_⟩
    obtain ⟨f, e1, e2⟩ := h11'
    exact Or.inl ⟨hok, rfl, μ6, f, (hT.em x2).1, e1, hl2, e2⟩
  refine B_X7_read_0 hk (Nat.zero_le _) ?_
  rw [min_40 hk80, c0_0]
  generalize hM0 : m2_si (m2_si (m2_si (m2_si (m2_si (m2_si (m2_si μ kE 10 (nI (min k 40))) kE 11 0) kE 5 0) kE 7 0) kE 9 0) kE_compared 0 (vp_nar .boolean 0)) kE 12 (if nI (min k 40) ≤ 0 then 0 else 1 : Int32) = M0
  have x0 : xS μ k 0 [] [] 0 (fun _ => false) (decide (0 < min k 40)) M0 := by
    refine ⟨⟨⟨?_, ?_, ?_⟩, ?_, by decide, fun j hj => ?_, ?_⟩, ⟨?_, fun i c hi => by simp at hi, ?_, trivial⟩, ?_, ?_, Nat.le_refl 0, Nat.zero_le _⟩
    · rw [← hM0]; exact fr_si rfl (fr_si rfl (fr_si rfl (fr_si rfl (fr_si rfl (fr_si rfl (fr_si rfl fr.rf))))))
    · rw [← hM0, si_nj _ _ _ (by decide), si_nc _ _ _ (by decide), si_nj _ _ _ (by decide), si_nj _ _ _ (by decide), si_nj _ _ _ (by decide), si_nj _ _ _ (by decide), si_nj _ _ _ (by decide)]
    · rw [← hM0, si_nj _ _ _ (by decide), si_nc _ _ _ (by decide), si_nj _ _ _ (by decide), si_nj _ _ _ (by decide), si_nj _ _ _ (by decide), si_nj _ _ _ (by decide), si_nj _ _ _ (by decide)]
    · rw [← hM0, si_nj _ _ _ (by decide), si_nc _ _ _ (by decide), si_at]; rfl
    · have : j = 0 := by omega
      rw [this, ← hM0, si_nc _ _ _ (by decide), si_at]; rfl
    · rw [← hM0, si_nj _ _ _ (by decide), si_nc _ _ _ (by decide), si_nj _ _ _ (by decide), si_nj _ _ _ (by decide), si_nj _ _ _ (by decide), si_nj _ _ _ (by decide), si_at]
    · rw [← hM0, si_nj _ _ _ (by decide), si_nc _ _ _ (by decide), si_nj _ _ _ (by decide), si_nj _ _ _ (by decide), si_at]; rfl
    · rw [← hM0, si_nj _ _ _ (by decide), si_nc _ _ _ (by decide), si_nj _ _ _ (by decide), si_at]; rfl
    · rw [← hM0, si_nj _ _ _ (by decide), si_nc _ _ _ (by decide), si_nj _ _ _ (by decide), si_nj _ _ _ (by decide), si_nj _ _ _ (by decide), si_at]; rfl
    · rw [← hM0, si_at]
      by_cases z : 0 < min k 40
      · rw [if_neg (nI_nle z (by omega)), decide_eq_true z]; rfl
      · rw [if_pos ((nI_le0 (by omega)).mpr (by omega)), decide_eq_false z]; rfl
  have n0 : (0 : Int32) = nI 0 := rfl
  by_cases hk0 : k = 0
  · have hz : ¬ 0 < min k 40 := by omega
    rw [decide_eq_false hz] at x0
    exact good (o := []) (pd := []) 0 x0 (by omega) (by omega) (Or.inl hk0) rkA.nil (by unfold rwP; rw [if_pos hk0]; rfl)
  · have hz : 0 < min k 40 := by omega
    rw [decide_eq_true hz] at x0
    have failF : ∀ a, ¬ okP g k → a = (cp g k 400 0 0 0).2.1 → (∀ M v2 v3, frX μ M → M.1 kE 11 = nI a → κ 145 [.ref kE, .int (nI k), .int v2, .int v3] [] M) := by
      intro a hno ea M v2 v3 hM h11
      refine B_X7_read_145 hk (Or.inr ⟨hno, ?_, hM⟩)
      rw [h11, ea]
    refine (cp_sim hR (h_256 tx) 400).1 0 0 [] [] (fun _ => false) (by decide) (by decide) (by decide) trivial rfl (fun o' pd cm' t1 q1 p1 j1 n1 c1 => ?_) (fun t1 => ?_) M0 0 (Nat.le_refl 0) x0
    · intro M i hi hx
      rw [List.append_nil] at hx
      obtain ⟨hT, hW, h11, h12, hl, hle⟩ := id hx
      by_cases hbk : (cp g k 400 0 0 0).2.1 = k
      · refine good i hx (by omega) (by omega) (Or.inr ⟨t1, hbk⟩) p1 ?_
        rw [q1]
        unfold rwP
        rw [if_neg hk0]
        rfl
      · have hno : ¬ okP g k := fun w => w.elim hk0 (fun w => hbk w.2)
        have hF := failF _ hno rfl
        by_cases hla : (cp g k 400 0 0 0).2.1 < min k 40
        · refine joint i hi hx hla (fun b hb eb => ⟨_, S_jX (by omega) μ M hx hb eb ?_, fun y M' hq => ?_⟩)
          · by_cases z : cp_h g k (cp g k 400 0 0 0).2.1 = 41
            · exact Or.inl ⟨z, rfl⟩
            · refine Or.inr ⟨z, ?_⟩
              by_cases y4 : nj1 (cp_h g k (cp g k 400 0 0 0).2.1)
              · exact Or.inl (rk_0 j1 y4 (h_256 tx _))
              · exact Or.inr ⟨rk_1 y4, n1.resolve_right y4⟩
          · obtain ⟨z1, z2⟩ := hq
            cases z1
            subst z2
            exact fail _ (i + 1) _ hF hT.1 h11
        · refine endK i hx (by omega) ?_
          exact B_X7_read_121 hk ⟨fun q => absurd q (by decide), fun _ => ⟨fun _ => hF M _ _ hT.1 h11, fun q => absurd (nI_lt (a := 40) (by omega) (by omega)) q⟩⟩
    · exact failF _ (fun w => w.elim hk0 (fun w => by rw [t1] at w; exact absurd w.1 (by decide))) rfl
