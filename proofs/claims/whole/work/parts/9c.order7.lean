/-! order -/
theorem mrg_ne {a b : tB} (h : a ≠ none ∨ b ≠ none) : mrg a b ≠ none := by
  cases b with
  | none => exact h.resolve_right (fun w => w rfl)
  | some q =>
    cases a with
    | none => exact fun w => by cases w
    | some q0 =>
      show (if q.1 < q0.1 then some q else some q0) ≠ none
      split <;> exact fun w => by cases w
theorem tvL_ne {c : Nat → tB} {i : Nat} (hi : c i ≠ none) : ∀ {r : Nat}, i < r → tvL c r ≠ none
  | 0, h => absurd h (Nat.not_lt_zero _)
  | r + 1, h => by
    show mrg (tvL c r) (c r) ≠ none
    by_cases e : i = r
    · subst e; exact mrg_ne (Or.inr hi)
    · exact mrg_ne (Or.inl (tvL_ne hi (by omega)))
theorem odV_ne {ν : m2M} {n p pl : Nat} (hp8 : p ≤ 8) : ∀ (k : Nat) {S : Nat → Bool} {P : List Nat}, okS ν p S P → cnb S 12 = k → odV n p pl ν k S P ≠ none
  | 0, S, P, _, _ => fun w => by cases w
  | k + 1, S, P, hS, hk => by
    obtain ⟨q, hq12, hq⟩ : ∃ q, q < 12 ∧ S q = true := by
      apply Classical.byContradiction
      intro w
      have := cnb_f0 (f := S) (n := 12) (fun i hi => by
        cases e : S i with
        | false => rfl
        | true => exact absurd ⟨i, hi, e⟩ w)
      omega
    refine tvL_ne (i := q) ?_ (hS.1 q hq).1
    rw [if_pos hq]
    exact odV_ne hp8 k (hS.rm hq) (by have := cnb_rm hq hq12; omega)
theorem oky_w {x w t : Nat} (h : x = oky w t) (h1 : w ≤ 792) (h2 : t ≤ 300) : 800 - x / 1000 = w ∧ x % 1000 = t := by
  unfold oky at h
  omega
theorem S_ordSearch {D n p pl : Nat} {b : Nat × List Nat} (hD : 14 ≤ D) (μ : m2M) (hR : RLn μ μ n p) (hpl : pl < 4) (hm : cnb (bzB μ p) 12 ≤ 6) (hok : okS μ p (bzB μ p) []) (eV : odV n p pl μ (cnb (bzB μ p) 12) (bzB μ p) [] = some b) : m2_MT D yX4_search cX4_search 2 none [.ref kO, .int (nI pl)] μ (fun _ μ' => RLn μ μ' n p ∧ stC (some b) μ' ∧ frC μ μ' ∧ μ'.1 kO 7 = nI (cnb (bzB μ p) 12)) := by
  obtain ⟨D, rfl⟩ : ∃ E, D = E + 1 := ⟨D - 1, by omega⟩
  refine m2_MT.intro (ls := [.ref kO, .int (nI pl)]) (by decide +kernel) rfl (ble rfl) (fun κ hk => ?_)
  refine B_X4_search_0 hk ⟨_, S_ordBegin (by omega) μ μ hR hm, fun μ15 h15 => ?_⟩
  obtain ⟨f15, C15, k8, k11, k12, k14⟩ := h15
  have hR15 := f15.j.R hR
  have eg0 : gnS (bzB μ p) (fun _ => false) = bzB μ p := by funext q; unfold gnS; simp
  have eb0 : (0 : Int32) = bts (fun _ => false) 12 := by decide
  have hcb : fX4_canBeBetter μ15 = 1 := by
    unfold fX4_canBeBetter
    have := hpN_le (pl := pl) (S := bzB μ p) (P := []) hR hok.2
    have e : hpN (lnS n p pl μ []).1 (bzB μ p) p = hpN μ (bzB μ p) p := rfl
    rw [k8, k11, if_pos (m1_lt (by omega))]
  have call := S_ordOn (n := n) (p := p) (pl := pl) μ μ hR hpl hm (cnb (bzB μ p) 12) (D := D) (Gn := fun _ => false) (P := []) (b := none) μ15 (by omega) (by simp) (by rw [eg0]; exact hok) (by rw [eg0]) hR15 C15 (by rw [eg0]; exact k11) k12 (by rw [eg0]; exact k14) (fun i r hi => by simp at hi) k8 hcb
  rw [eg0, ← eb0, mrg_none, eV] at call
  refine ⟨_, call, fun μ20 h20 => ?_⟩
  obtain ⟨z1, z2, z3⟩ := h20
  exact ⟨z1, z3, f15.j.2.c.tr z2.1, (z2.2.1 7 (by decide) (by decide)).trans C15.1⟩
set_option maxHeartbeats 2000000 in
theorem T_order {D : Nat} (hD : 420 ≤ D) (x : Int32) (μ : m2M) (h : REL μ) : stp D yX11_order cX11_order 3 (some .int) yX12_order cX12_order 4 (some .int) [.int x] μ REL := by
  obtain ⟨D, rfl⟩ : ∃ E, D = E + 1 := ⟨D - 1, by omega⟩
  obtain ⟨n, p, hR⟩ := id h
  have hR : RLn μ μ n p := hR
  have hp8 := hR.p8
  have ebt : bts (fun q => !decide (gN μ q = -1)) p = bts (bzB μ p) 12 := bts_ext (by omega) (by decide)
  by_cases ok : in_ 4 x
  case neg =>
    refine T_of (some (.int (-1))) μ ?_ (fun ν hv => ?_)
    · refine m2_MT.intro (ls := [.ref kC, .int x, .null]) (by decide +kernel) rfl (ble rfl) (fun κ hk => ?_)
      exact B_X11_order_0 hk (Nat.zero_le _) ⟨fun z => absurd (isPlan_iff.mp z) ok, fun _ => ⟨rfl, h, fr.rf⟩⟩
    · refine m2_MT.intro (ls := [.ref kM, .int x, .null, .null]) (by decide +kernel) rfl (ble rfl) (fun κ hk => ?_)
      exact B_X12_order_0 hk (Nat.zero_le _) ⟨fun z => absurd ((in_k (k := 3) (by decide)).mp z) ok, fun _ => ⟨rfl, hv.thr, fr_si rfl fr.rf⟩⟩
  obtain ⟨pl, hpl, rfl⟩ := id ok
  have ebc : fJ6_bitCount_0f7a4 (bts (bzB μ p) 12) = nI (cnb (bzB μ p) 12) := bitC (by decide)
  have hcle := cnb_le (bzB μ p) 12
  by_cases hm : cnb (bzB μ p) 12 ≤ 6
  case neg =>
    refine T_of (some (.int (-3))) μ ?_ (fun ν hv => ?_)
    · refine m2_MT.intro (ls := [.ref kC, .int (nI pl), .null]) (by decide +kernel) rfl (ble rfl) (fun κ hk => ?_)
      refine B_X11_order_0 hk (Nat.zero_le _) ⟨fun _ => ⟨_, S_busyBits (by omega) μ μ hR, fun y5 μ6 h6 => ?_⟩, fun z => absurd (isPlan_iff.mpr ok) z⟩
      obtain ⟨e1, e2⟩ := h6
      cases e1
      subst e2
      rw [ebt, ebc]
      exact ⟨fun w => absurd w (nI_ge (a := 6) (by omega) (by omega)), fun _ => ⟨rfl, h, fr.rf⟩⟩
    · refine m2_MT.intro (ls := [.ref kM, .int (nI pl), .null, .null]) (by decide +kernel) rfl (ble rfl) (fun κ hk => ?_)
      refine B_X12_order_0 hk (Nat.zero_le _) ⟨fun _ => ⟨_, S_toGo (by omega) μ _ μ hR hv.thr, fun y5 μ6 h6 => ?_⟩, fun z => absurd ((in_k (k := 3) (by decide)).mpr ok) z⟩
      obtain ⟨e1, e2⟩ := h6
      cases e1
      subst e2
      rw [ebt, ebc]
      exact ⟨fun w => absurd w (nI_ge (a := 6) (by omega) (by omega)), fun _ => ⟨rfl, hv.thr, fr_si rfl fr.rf⟩⟩
  have hok : okS μ p (bzB μ p) [] := ⟨fun q hq => ⟨(bzB_iff.mp hq).1, by simp, (bzB_iff.mp hq).2⟩, fun q hq => by simp at hq⟩
  obtain ⟨b, eV⟩ : ∃ b, odV n p pl μ (cnb (bzB μ p) 12) (bzB μ p) [] = some b := by
    cases e : odV n p pl μ (cnb (bzB μ p) 12) (bzB μ p) [] with
    | none => exact absurd e (odV_ne hp8 _ hok rfl)
    | some b => exact ⟨b, rfl⟩
  obtain ⟨w0, t0, q1, q2, q3, q4, q5⟩ := odV_ge (pl := pl) hR _ hok rfl eV
  have hb2 : b.2.length = cnb (bzB μ p) 12 := by rw [q5]; simp
  refine T_of (some (.int (nI (800 - b.1 / 1000)))) (tlM μ ((nI (b.1 % 1000)).toInt64 :: b.2.map (fun r => (nI r).toInt64))) ?_ (fun ν hv => ?_)
  · refine m2_MT.intro (ls := [.ref kC, .int (nI pl), .null]) (by decide +kernel) rfl (ble rfl) (fun κ hk => ?_)
    refine B_X11_order_0 hk (Nat.zero_le _) ⟨fun _ => ⟨_, S_busyBits (by omega) μ μ hR, fun y5 μ6 h6 => ?_⟩, fun z => absurd (isPlan_iff.mpr ok) z⟩
    obtain ⟨e1, e2⟩ := h6
    cases e1
    have e2 := e2.symm
    subst e2
    rw [ebt, ebc]
    refine ⟨fun _ => ⟨_, S_ordSearch (b := b) (by omega) μ hR hpl hm hok eV, fun μ20 h20 => ?_⟩, fun w => absurd (nI_le (b := 6) hm (by decide)) w⟩
    obtain ⟨z1, z3, fC, e7⟩ := h20
    obtain ⟨w, t, a1, a2, a3, a4, a5, a6, a7⟩ := z3
    obtain ⟨ew, et⟩ := oky_w a1 a2 a3
    rw [ew, et] at hk
    rw [a5]
    refine ⟨_, S_tellC (nI t).toInt64 _ (l := []) rC.i (by simp), fun μ25 h25 => ?_⟩
    obtain ⟨t1, t2⟩ := h25
    have t2' : twC μ20 μ25 := twC.i.tr t2
    refine dn (n := cnb (bzB μ p) 12) (G := fun i => ∀ M, rC ((nI t).toInt64 :: (b.2.take i).map (fun r => (nI r).toInt64)) M → twC μ20 M → κ 54 [.ref kC, .int (nI pl), .int (nI i)] [] M) (fun M hr ht => ?_) (fun i hi ih M hr ht => ?_) μ25 t1 t2'
    · rw [← hb2, List.take_length] at hr
      refine B_X11_order_54 hk ⟨fun _ => ⟨by rw [ht.cc (by decide), a4], REL2.tell z1.r hr ht (by simp; omega), ht.fr rfl rfl fC⟩, fun w => absurd (by rw [ht.cc (by decide), e7]; exact nI_le (Nat.le_refl _) (by omega)) w⟩
    · obtain ⟨r, er⟩ : ∃ r, b.2[i]? = some r := ⟨b.2[i]'(by omega), List.getElem?_eq_getElem (by omega)⟩
      refine B_X11_order_54 hk ⟨fun w => absurd (by rw [ht.cc (by decide), e7] at w; exact w) (nI_ge hi (by omega)), fun _ => ⟨vp_in_nI (by omega) (by decide), ?_⟩⟩
      rw [nI_clamp (by omega), ht.cc (by decide), a7 i r er, nI_1]
      refine ⟨_, S_tellC _ _ hr (by simp; omega), fun μ5 h5 => ih μ5 ?_ (ht.tr h5.2)⟩
      have := h5.1
      rw [List.cons_append, tk_s er] at this
      exact this
  · have hv' := hv.thr
    refine m2_MT.intro (ls := [.ref kM, .int (nI pl), .null, .null]) (by decide +kernel) rfl (ble rfl) (fun κ hk => ?_)
    refine B_X12_order_0 hk (Nat.zero_le _) ⟨fun _ => ⟨_, S_toGo (by omega) μ _ μ hR hv', fun y5 μ6 h6 => ?_⟩, fun z => absurd ((in_k (k := 3) (by decide)).mpr ok) z⟩
    obtain ⟨e1, e2⟩ := h6
    cases e1
    subst e2
    rw [ebt, ebc]
    refine ⟨fun _ => ?_, fun w => absurd (nI_le (b := 6) hm (by decide)) w⟩
    have call := S_orderFrom (n := n) (p := p) (pl := pl) μ μ hR hpl (cnb (bzB μ p) 12) (D := D) (S := bzB μ p) (P := []) (b := none) (m2_si (m2_si ν kM 22 0) kM 48 (-1)) (by omega) hok rfl (by simp; omega) (vM_si rfl hv') (si_at _ _ _ _) (fun i r hi => by simp at hi)
    rw [mrg_none, eV] at call
    refine ⟨_, call, fun μ15 h15 => ?_⟩
    obtain ⟨z1, z2, _, z3⟩ := h15
    obtain ⟨w, t, a1, a2, a3, a4, a5, a6, a7⟩ := z3
    obtain ⟨ew, et⟩ := oky_w a1 a2 a3
    rw [ew, et] at hk
    have fM : frM ν μ15 := (fr_si rfl (fr_si rfl fr.rf)).tr z2
    rw [a5]
    have kM_o : ∀ {M M' : m2M}, twM M M' → M'.1 kM 48 = M.1 kM 48 ∧ M'.1 kM_bestLine = M.1 kM_bestLine := by
      intro M M' ht
      obtain ⟨g', z', rfl⟩ := ht
      exact ⟨si_nj _ _ _ (by decide), si_nc _ _ _ (by decide)⟩
    refine ⟨_, S_tellM (nI t).toInt64 _ (l := []) rM.i (by simp), fun μ20 h20 => ?_⟩
    obtain ⟨t1, t2⟩ := h20
    have t2' : twM μ15 μ20 := twM.i.tr t2
    refine dn (n := cnb (bzB μ p) 12) (G := fun i => ∀ M, rM ((nI t).toInt64 :: (b.2.take i).map (fun r => (nI r).toInt64)) M → twM μ15 M → κ 61 [.ref kM, .int (nI pl), .int (bts (bzB μ p) 12), .int (nI i)] [] M) (fun M hr ht => ?_) (fun i hi ih M hr ht => ?_) μ20 t1 t2'
    · rw [← hb2, List.take_length] at hr
      refine B_X12_order_61 hk (Nat.zero_le _) ⟨fun _ => ⟨by rw [(kM_o ht).1, a4], z1.tell hr ht (by simp; omega), ht.fr rfl rfl fM⟩, fun w => absurd (by rw [ebc]; exact nI_le (Nat.le_refl _) (by omega)) w⟩
    · obtain ⟨r, er⟩ : ∃ r, b.2[i]? = some r := ⟨b.2[i]'(by omega), List.getElem?_eq_getElem (by omega)⟩
      refine B_X12_order_61 hk (Nat.zero_le _) ⟨fun w => absurd (by rw [ebc] at w; exact w) (nI_ge hi (by omega)), fun _ => ⟨vp_in_nI (by omega) (by decide), ?_⟩⟩
      rw [nI_clamp (by omega), (kM_o ht).2, a7 i r er, nI_1]
      refine ⟨_, S_tellM _ _ hr (by simp; omega), fun μ8 h8 => ih μ8 ?_ (ht.tr h8.2)⟩
      have := h8.1
      rw [List.cons_append, tk_s er] at this
      exact this
