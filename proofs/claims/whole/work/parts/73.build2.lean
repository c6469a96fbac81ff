/-! build -/
theorem rng_of {x : Int32} {lo hi : Nat} (h1 : ¬ x < nI lo) (h2 : ¬ nI hi < x) (hl : 0 < lo) (hh : hi < 99) (hlh : lo < 99) : ∃ a, lo ≤ a ∧ a ≤ hi ∧ x = nI a := by
  have h0 : ¬ x < 0 := fun w => h1 (Int32.lt_trans w (nI_lt (a := 0) hl (by omega)))
  obtain ⟨a, ha, rfl⟩ := (in_k (x := x) (k := hi) (by omega)).mp (fX12_in_iff.mpr ⟨h0, h2⟩)
  refine ⟨a, ?_, by omega, rfl⟩
  apply Classical.byContradiction
  intro w
  exact h1 (nI_lt (by omega) (by omega))
def bM (s : Option (Nat × Nat × Nat)) : Int32 × Int32 × Int32 := match s with
  | none => (-1, 0, 0)
  | some q => (nI q.1, nI q.2.1, nI q.2.2)
set_option maxHeartbeats 2000000 in
theorem T_build {D : Nat} (hD : 4 ≤ D) (μ : m2M) (h : REL μ) (x1 x2 x3 x4 : Int32) : stp D yX11_build cX11_build 9 (some .int) yX12_build cX12_build 11 (some .int) [.int x1, .int x2, .int x3, .int x4] μ REL := by
  obtain ⟨D, rfl⟩ : ∃ E, D = E + 1 := ⟨D - 1, by omega⟩
  obtain ⟨n, p, hR⟩ := id h
  have hR : RLn μ μ n p := hR
  have hn := hR.n20
  by_cases hx : (in_ 12 x1 ∧ in_ 12 x2 ∧ x1 ≠ x2) ∧ (¬ x3 < 2 ∧ ¬ 12 < x3) ∧ (¬ x4 < 1 ∧ ¬ 60 < x4)
  case neg =>
    refine T_of (some (.int (-1))) μ ?_ (fun ν hv => ?_)
    · refine m2_MT.intro (ls := [.ref kC, .int x1, .int x2, .int x3, .int x4, .null, .null, .null, .null]) (by decide +kernel) rfl (ble rfl) (fun κ hk => ?_)
      exact B_X11_build_0 hk (by omega) ⟨fun w => ⟨fun _ => ⟨rfl, hR.r, fr.rf⟩, fun w2 => ⟨fun _ => ⟨rfl, hR.r, fr.rf⟩, fun w3 => ⟨fun _ => ⟨rfl, hR.r, fr.rf⟩, fun w4 => ⟨fun w5 => absurd ⟨unlike_iff.mp w, ⟨w2, w3⟩, w4, Int32.not_lt.mpr w5⟩ hx, fun _ => ⟨rfl, hR.r, fr.rf⟩⟩⟩⟩⟩, fun _ => ⟨rfl, hR.r, fr.rf⟩⟩
    · refine m2_MT.intro (ls := [.ref kM, .int x1, .int x2, .int x3, .int x4, .null, .null, .null, .null, .null, .null]) (by decide +kernel) rfl (ble rfl) (fun κ hk => ?_)
      exact B_X12_build_0 hk (by omega) ⟨fun w => ⟨fun w2 => ⟨fun w3 => absurd ⟨ends_iff.mp w, fX12_in_iff.mp w2, fX12_in_iff.mp w3⟩ hx, fun _ => ⟨rfl, hv.thr, fr_si rfl fr.rf⟩⟩, fun _ => ⟨rfl, hv.thr, fr_si rfl fr.rf⟩⟩, fun _ => ⟨rfl, hv.thr, fr_si rfl fr.rf⟩⟩
  obtain ⟨hx0, hx3, hx4⟩ := id hx
  obtain ⟨⟨⟨a0, ha0, rfl⟩, ⟨b0, hb0, rfl⟩, hne⟩, _, _⟩ := hx
  have hab : a0 ≠ b0 := fun e => hne (by rw [e])
  obtain ⟨N, hN1, hN2, rfl⟩ := rng_of (lo := 2) (hi := 12) hx3.1 hx3.2 (by decide) (by decide) (by decide)
  obtain ⟨v, hv1, hv2, rfl⟩ := rng_of (lo := 1) (hi := 60) hx4.1 hx4.2 (by decide) (by decide) (by decide)
  let W := bdW μ n v a0 b0
  obtain ⟨q, hq⟩ := ouF_0 W hN1
  refine T_of (some (.int (nI q.2.2))) (tlM μ (rwL q)) ?_ (fun ν hv => ?_)
  · refine m2_MT.intro (ls := [.ref kC, .int (nI a0), .int (nI b0), .int (nI N), .int (nI v), .null, .null, .null, .null]) (by decide +kernel) rfl (ble rfl) (fun κ hk => ?_)
    refine B_X11_build_0 hk (by omega) ⟨fun _ => ⟨fun w => absurd w hx3.1, fun _ => ⟨fun w => absurd w hx3.2, fun _ => ⟨fun w => absurd w hx4.1, fun _ => ⟨fun _ => ⟨_, S_load (by omega) μ μ hR, fun μ6 h6 => ?_⟩, fun w => absurd (Int32.not_lt.mp hx4.2) w⟩⟩⟩⟩, fun w => absurd (unlike_iff.mpr hx0) w⟩
    obtain ⟨f6, a6, k6⟩ := h6
    let st : Option (Nat × Nat × Nat) → m2M → Prop := fun s M => frC μ M ∧ fwB M n (dA μ) (dB μ) (dT μ) (dL μ) ∧ RLn (rwS μ s) M n p ∧ ∀ q, s = some q → q.2.2 ≤ 1281
    have outer : ∀ (f a : Nat) (s : Option (Nat × Nat × Nat)) (M : m2M), a + f = N → st s M → ouF W N f a s = some q → κ 51 [.ref kC, .int (nI a0), .int (nI b0), .int (nI N), .int (nI v), .int (bC s), .int (nI a), .null, .null] [] M := by
      intro f
      induction f with
      | zero =>
        intro a s M ha hs e
        have ea : a = N := by omega
        subst ea
        have e : s = some q := e
        subst e
        refine B_X11_build_51 hk ⟨fun _ => ⟨rfl, hs.2.2.1.r, hs.1⟩, fun w => absurd (nI_le (Nat.le_refl _) (by omega)) w⟩
      | succ f ih =>
        intro a s M ha hs e
        refine B_X11_build_51 hk ⟨fun w => absurd w (nI_ge (by omega) (by omega)), fun _ => ?_⟩
        rw [nI_1]
        have inner : ∀ (g b : Nat) (s : Option (Nat × Nat × Nat)) (M : m2M), b + g = N → a < b → st s M → ouF W N f (a + 1) (inF W a g b s) = some q → κ 63 [.ref kC, .int (nI a0), .int (nI b0), .int (nI N), .int (nI v), .int (bC s), .int (nI a), .int (nI b), .null] [] M := by
          intro g
          induction g with
          | zero =>
            intro b s M hb hab' hs e
            have eb : b = N := by omega
            subst eb
            refine B_X11_build_63 hk ⟨fun _ => ?_, fun w => absurd (nI_le (Nat.le_refl _) (by omega)) w⟩
            rw [nI_1]
            exact ih (a + 1) s M (by omega) hs e
          | succ g ihg =>
            intro b s M hb hab' hs e
            refine B_X11_build_63 hk ⟨fun w => absurd w (nI_ge (by omega) (by omega)), fun _ => ?_⟩
            refine ⟨_, S_lay (v := v) M hs.2.1 (by omega) (by omega) (by omega) (by omega), fun μ3 h3 => ?_⟩
            obtain ⟨f3, b3, a3⟩ := h3
            refine ⟨_, S_greatestW (by omega) μ3 a3 ha0 hb0 hab, fun y7 μ8 h8 => ?_⟩
            obtain ⟨f8, e8, l8, _⟩ := h8
            cases e8
            have fK : frK M μ8 := f3.tr f8.k
            have b8 := f8.B b3
            have hR8 := fK.j.R hs.2.2.1
            have fC8 : frC μ μ8 := hs.1.tr fK.j.2.c
            have eW : mV (dcut (n + 1) (updN (dA μ) n a) (updN (dB μ) n b) (tpN (dT μ) n) (updN (dL μ) n v)) a0 b0 = W a b := rfl
            rw [eW] at l8 ⊢
            have e : ouF W N f (a + 1) (inF W a g (b + 1) (upS W s a b)) = some q := e
            -- nothing better
            have no : upS W s a b = s → κ 63 [.ref kC, .int (nI a0), .int (nI b0), .int (nI N), .int (nI v), .int (bC s), .int (nI a), .int (nI b + 1), .null] [] μ8 := by
              intro z
              rw [nI_1]
              rw [z] at e
              exact ihg (b + 1) s μ8 (by omega) (by omega) ⟨fC8, b8, hR8, hs.2.2.2⟩ e
            have yes : upS W s a b = some (a, b, W a b) → ∃ Q15 : Option Value → m2M → Prop, m2_MT D yX11_tell cX11_tell 3 none [.ref kC, .long (nI a).toInt64] (m2_si μ8 kC 3 0) Q15 ∧ ∀ (μ14 : m2M), Q15 none μ14 → (∃ Q20 : Option Value → m2M → Prop, m2_MT D yX11_tell cX11_tell 3 none [.ref kC, .long (nI b).toInt64] μ14 Q20 ∧ ∀ (μ19 : m2M), Q20 none μ19 → (κ 63 [.ref kC, .int (nI a0), .int (nI b0), .int (nI N), .int (nI v), .int (nI (W a b)), .int (nI a), .int (nI b + 1), .null] [] μ19)) := by
              intro z
              rw [z] at e
              refine ⟨_, S_tellC _ _ rC.i (by decide), fun μ14 h14 => ⟨_, S_tellC _ _ h14.1 (ble rfl), fun μ19 h19 => ?_⟩⟩
              rw [nI_1]
              have tw : twC μ8 μ19 := (twC.i.tr h14.2).tr h19.2
              have hS : ∀ c, 37 ≤ c → c ≤ 45 → (fun c => (c == kC) || (c == kC_row)) c = false := by
                intro c h1 h2
                rcases (show c = 37 ∨ c = 38 ∨ c = 39 ∨ c = 40 ∨ c = 41 ∨ c = 42 ∨ c = 43 ∨ c = 44 ∨ c = 45 by omega) with rfl | rfl | rfl | rfl | rfl | rfl | rfl | rfl | rfl <;> rfl
              have hT := hR8.tell h19.1 tw (ble rfl)
              have hT' : RLn (tlM μ (rwL (a, b, W a b))) μ19 n p := by
                have e0 : tlM (rwS μ s) ([] ++ [(nI a).toInt64] ++ [(nI b).toInt64]) = tlM μ (rwL (a, b, W a b)) := by
                  cases s with
                  | none => rfl
                  | some q0 => exact tlM_tl _ _ _
                rw [← e0]
                exact hT
              exact ihg (b + 1) (some (a, b, W a b)) μ19 (by omega) (by omega) ⟨tw.fr rfl rfl fC8, b8.keep (tw.fr (S := fun c => (c == kC) || (c == kC_row)) rfl rfl fr.rf) hS, hT', fun q0 e0 => by cases e0; exact l8⟩ e
            cases s with
            | none => exact ⟨fun w => absurd w (by
                show ¬ nI (W a b) ≤ -1
                exact fun w => absurd (Int32.le_trans (nI_le (a := 0) (b := W a b) (Nat.zero_le _) (by omega)) w) (by decide)), fun _ => yes rfl⟩
            | some q0 =>
              by_cases z : q0.2.2 < W a b
              · exact ⟨fun w => absurd w (nI_ge z (by omega)), fun _ => yes (if_pos z)⟩
              · exact ⟨fun _ => no (if_neg z), fun w => absurd (show nI (W a b) ≤ nI q0.2.2 from Int32.not_lt.mp (fun w2 => by
                  have hk0 : q0.2.2 < 2 ^ 31 := by have := hs.2.2.2 q0 rfl; omega
                  exact absurd w2 (Int32.not_lt.mpr (nI_le (by omega) hk0)))) w⟩
        exact inner (N - (a + 1)) (a + 1) s M (by omega) (by omega) hs e
    refine outer N 0 none μ6 (by omega) ⟨f6.j.2.c, ⟨k6.1, hn, fun d hd => a6.2.2 d hd⟩, f6.j.R hR, fun q e => by cases e⟩ hq
  · have hv' := hv.thr
    have f1 : frM ν (m2_si ν kM 22 0) := fr_si rfl fr.rf
    refine m2_MT.intro (ls := [.ref kM, .int (nI a0), .int (nI b0), .int (nI N), .int (nI v), .null, .null, .null, .null, .null, .null]) (by decide +kernel) rfl (ble rfl) (fun κ hk => ?_)
    refine B_X12_build_0 hk (by omega) ⟨fun _ => ⟨fun _ => ⟨fun _ => ?_, fun w => absurd (fX12_in_iff.mpr hx4) w⟩, fun w => absurd (fX12_in_iff.mpr hx3) w⟩, fun w => absurd (ends_iff.mpr hx0) w⟩
    have outer : ∀ (f a : Nat) (s : Option (Nat × Nat × Nat)) (M : m2M), a + f = N → (fr isGm (m2_si ν kM 22 0) M ∧ ∀ q, s = some q → q.2.2 ≤ 784000 ∧ q.1 < 12) → ouF W N f a s = some q → κ 48 [.ref kM, .int (nI a0), .int (nI b0), .int (nI N), .int (nI v), .int (bM s).1, .int (bM s).2.1, .int (bM s).2.2, .int (nI a), .null, .null] [] M := by
      intro f
      induction f with
      | zero =>
        intro a s M ha hs e
        have ea : a = N := by omega
        subst ea
        have e : s = some q := e
        subst e
        have v6 := frGm_v hs.1 hv'
        have m6 : frM ν M := f1.tr (frGm_m hs.1)
        refine B_X12_build_48 hk ⟨fun _ => ⟨_, S_tellM _ _ rM.i (by decide), fun μ3 h3 => ⟨_, S_tellM _ _ h3.1 (ble rfl), fun μ8 h8 => ⟨rfl, ?_, ?_⟩⟩⟩, fun w => absurd (nI_le (Nat.le_refl _) (by omega)) w⟩
        · exact v6.tell h8.1 ((twM.i.tr h3.2).tr h8.2) (ble rfl)
        · exact h8.2.fr rfl rfl (h3.2.fr rfl rfl (twM.i.fr rfl rfl m6))
      | succ f ih =>
        intro a s M ha hs e
        refine B_X12_build_48 hk ⟨fun w => absurd w (nI_ge (by omega) (by omega)), fun _ => ?_⟩
        rw [nI_1]
        have inner : ∀ (g b : Nat) (s : Option (Nat × Nat × Nat)) (M : m2M), b + g = N → a < b → (fr isGm (m2_si ν kM 22 0) M ∧ ∀ q, s = some q → q.2.2 ≤ 784000 ∧ q.1 < 12) → ouF W N f (a + 1) (inF W a g b s) = some q → κ 60 [.ref kM, .int (nI a0), .int (nI b0), .int (nI N), .int (nI v), .int (bM s).1, .int (bM s).2.1, .int (bM s).2.2, .int (nI a), .int (nI b), .null] [] M := by
          intro g
          induction g with
          | zero =>
            intro b s M hb hab' hs e
            have eb : b = N := by omega
            subst eb
            refine B_X12_build_60 hk ⟨fun _ => ?_, fun w => absurd (nI_le (Nat.le_refl _) (by omega)) w⟩
            rw [nI_1]
            exact ih (a + 1) s M (by omega) hs e
          | succ g ihg =>
            intro b s M hb hab' hs e
            refine B_X12_build_60 hk ⟨fun w => absurd w (nI_ge (by omega) (by omega)), fun _ => ⟨_, S_clearFlow _, fun μ3 h3 => ?_⟩⟩
            refine dn (n := n) (G := fun i => ∀ M', fr isGm (m2_si ν kM 22 0) M' → lyS μ (dL μ) i M' → κ 73 [.ref kM, .int (nI a0), .int (nI b0), .int (nI N), .int (nI v), .int (bM s).1, .int (bM s).2.1, .int (bM s).2.2, .int (nI a), .int (nI b), .int (nI i)] [] M') (fun M' hM hL => ?_) (fun i hi ih' M' hM hL => ?_) μ3 (hs.1.tr h3.1) (lyS_0 h3.2)
            · have vv := frGm_v hM hv'
              obtain ⟨c, c1, c2, c3⟩ := lyS_new (a := a) (b := b) (v := v) hL hn (by omega) (by omega) (by omega) (by omega)
              refine B_X12_build_73 hk ⟨fun _ => ?_, fun w => absurd (by rw [vv.1 kM 0 rfl rfl, hR.1.2.1]; exact nI_le (Nat.le_refl _) (by omega)) w⟩
              rw [can_ix, can_ix, nI_clamp (by omega), nI_clamp (by omega), si_nj _ _ _ (show 14 * b + a ≠ 14 * a + b by omega), c1 _ (by omega), c1 _ (by omega), nI_add, nI_add]
              refine ⟨vp_in_nI (by omega) (by decide), vp_in_nI (by omega) (by decide), _, S_flow (c0 := layN c a b true v) (by omega) _ (fun k hk' => ?_) c2 (show a0 < 14 by omega) (show b0 < 14 by omega) hab, fun y7 μ8 h8 => ?_⟩
              · unfold layN
                rw [if_pos rfl]
                by_cases z : k = 14 * b + a
                · rw [z, si_at, updN_at]
                · rw [si_nj _ _ _ z, updN_ne z]
                  by_cases z2 : k = 14 * a + b
                  · rw [z2, si_at, updN_at]
                  · rw [si_nj _ _ _ z2, updN_ne z2]; exact c1 k hk'
              · obtain ⟨f8, g8⟩ := h8
                obtain ⟨e8, ⟨l8, _⟩, _⟩ := g8.w c3
                cases e8
                have f8' : fr isGm (m2_si ν kM 22 0) μ8 := (show fr isGm (m2_si ν kM 22 0) _ from fr_si rfl (fr_si rfl hM)).tr f8
                have eW : mV (dcut (n + 1) (updN (dA μ) n a) (updN (dB μ) n b) (tpN (dT μ) n) (updN (dL μ) n v)) a0 b0 = W a b := rfl
                rw [eW] at l8 ⊢
                have e : ouF W N f (a + 1) (inF W a g (b + 1) (upS W s a b)) = some q := e
                have yes : upS W s a b = some (a, b, W a b) → κ 60 [.ref kM, .int (nI a0), .int (nI b0), .int (nI N), .int (nI v), .int (nI a), .int (nI b), .int (nI (W a b)), .int (nI a), .int (nI b + 1), .null] [] μ8 := by
                  intro z
                  rw [z] at e
                  rw [nI_1]
                  exact ihg (b + 1) (some (a, b, W a b)) μ8 (by omega) (by omega) ⟨f8', fun q0 e0 => by cases e0; exact ⟨l8, show a < 12 by omega⟩⟩ e
                cases s with
                | none => exact ⟨fun _ => yes rfl, fun w => absurd rfl w⟩
                | some q0 =>
                  have hq0 := hs.2 q0 rfl
                  refine ⟨fun w => absurd w (show ¬ nI q0.1 = -1 from nI_ne_m1 (by omega)), fun _ => ?_⟩
                  refine pk_lt q0.2.2 (W a b) (fun z => yes (if_pos z)) (fun z => ?_) rfl rfl (by omega) (by omega)
                  have z' : upS W (some q0) a b = some q0 := if_neg (by omega)
                  rw [z'] at e
                  rw [nI_1]
                  exact ihg (b + 1) (some q0) μ8 (by omega) (by omega) ⟨f8', hs.2⟩ e
            · have vv := frGm_v hM hv'
              refine B_X12_build_73 hk ⟨fun w => absurd (by rw [vv.1 kM 0 rfl rfl, hR.1.2.1] at w; exact w) (nI_ge hi (by omega)), fun _ => ⟨vp_in_nI (by omega) (by decide), ?_⟩⟩
              have z := hR.dr hi
              rw [nI_clamp (by omega), vv.1 kM_left i rfl rfl, nI_1]
              exact ⟨_, S_layDoor μ μ M' hR vv.f hi (by omega) z.2.2.2.2.2.2.1 hL, fun μ12 h12 => ih' μ12 (hM.tr h12.1) h12.2⟩
        exact inner (N - (a + 1)) (a + 1) s M (by omega) (by omega) hs e
    exact outer N 0 none _ (by omega) ⟨fr.rf, fun q e => by cases e⟩ hq
