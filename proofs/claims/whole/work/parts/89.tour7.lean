/-! tour -/
theorem frY_arr {ν μ μ' : m2M} {n : Nat} {g : Nat → Bool} {k : Nat} {j : Nat} {x : Int32} (e : μ' = m2_si μ kT_arranged j x) (hP : ppT ν n g k μ) (hr : ppR ν n g μ) : ppT ν n g k μ' ∧ ppR ν n g μ' := by
  subst e
  refine ⟨⟨?_, fun i hi => ?_, fun i u hi hu => ?_⟩, fun u i hu hi => ?_⟩
  · rw [si_nc _ _ _ (by decide)]; exact hP.1
  · rw [si_nc _ _ _ (by decide)]; exact hP.2.1 i hi
  · rw [si_nc _ _ _ (show 157 + i ≠ kT_arranged by show _ ≠ 59; omega)]; exact hP.2.2 i u hi hu
  · rw [si_nc _ _ _ (show 163 + u ≠ kT_arranged by show _ ≠ 59; omega)]; exact hr u i hu hi
set_option maxHeartbeats 1000000 in
theorem S_arrange {D n p room : Nat} {g : Nat → Bool} {q : Nat × List Nat} (hD : 3 ≤ D) (ν μ : m2M) (h : RLn ν μ n p) (hm : cnb g 12 ≤ 6) (hP : ppT ν n g (cnb g 12) μ) (hr : ppR ν n g μ) (hroom : room < 12) (e : tvT ν n g room = some q) : m2_MT D yX9_arrange cX9_arrange 6 none [.ref kT, .int (nI room)] μ (fun _ μ' => frY μ μ' ∧ μ'.1 kT 5 = nI (cnb g 12) ∧ ∀ i r, q.2[i]? = some r → μ'.1 kT_arranged i = nI r) := by
  obtain ⟨D, rfl⟩ : ∃ E, D = E + 1 := ⟨D - 1, by omega⟩
  have hpos : 0 < 2 ^ cnb g 12 := Nat.pow_pos (by decide)
  have hp2 := p2_le hm
  have hql : q.2.length = cnb g 12 := (tvS_le h hroom e).2.1
  refine m2_MT.intro (ls := [.ref kT, .int (nI room), .null, .null, .null, .null]) (by decide +kernel) rfl (ble rfl) (fun κ hk => ?_)
  refine B_X9_arrange_0 hk ?_
  rw [hP.1, p2_int _ (by omega), show (1 : Int32) = nI 1 from rfl, pk_sub (by omega)]
  have go : ∀ (f k v rm : Nat) (pre : List Nat) (q1 : Nat × List Nat) (M : m2M), k + f = cnb g 12 → v < 2 ^ cnb g 12 → rm < 12 → pre.length = k → pre ++ q1.2 = q.2 → tvT ν n (svB g v) rm = some q1 → frY μ M → ppT ν n g (cnb g 12) M → ppR ν n g M → (∀ i r, pre[i]? = some r → M.1 kT_arranged i = nI r) → κ 14 [.ref kT, .int (nI room), .int (nI v), .int (nI rm), .int (nI k), .null] [] M := by
    intro f
    induction f with
    | zero =>
      intro k v rm pre q1 M hkf hv hrm hpre happ ht hM hP hr ha
      have e0 : k = cnb g 12 := by omega
      have hl : (pre ++ q1.2).length = cnb g 12 := by rw [happ]; exact hql
      have hz : q1.2 = [] := by
        rw [List.length_append] at hl
        exact List.eq_nil_of_length_eq_zero (by omega)
      rw [hz, List.append_nil] at happ
      refine B_X9_arrange_14 hk ⟨fun _ => ⟨hM, hP.1, fun i r hr' => ha i r (by rw [happ]; exact hr')⟩, fun w => absurd (by rw [hP.1, e0]; exact nI_le (Nat.le_refl _) (by omega)) w⟩
    | succ f ih =>
      intro k v rm pre q1 M hkf hv hrm hpre happ ht hM hP hr ha
      have hRM := hM.R h
      have hl : (pre ++ q1.2).length = cnb g 12 := by rw [happ]; exact hql
      rw [List.length_append] at hl
      have hc : cnb (svB g v) 12 = f + 1 := by
        have := (tvS_le h hrm ht).2.1
        omega
      have hne : ∃ i, i < cnb g 12 ∧ v.testBit i = true := by
        apply Classical.byContradiction
        intro w
        have : cnb (svB g v) 12 = 0 := cnb_f0 (fun r hr12 => by
          unfold svB
          cases eg : g r with
          | false => rfl
          | true =>
            cases et : v.testBit (cnb g r) with
            | false => rfl
            | true => exact absurd ⟨_, cnb_in eg hr12, et⟩ w)
        omega
      refine B_X9_arrange_14 hk ⟨fun w => absurd (by rw [hP.1] at w; exact w) (nI_ge (show k < cnb g 12 by omega) (by omega)), fun _ => ⟨_, S_nextOf (by omega) M hRM hm hP hr hv hrm hne ht, fun y2 μ3 h3 => ?_⟩⟩
      obtain ⟨⟨i, q', e1, c1, c2, c3, c4⟩, e3⟩ := h3
      cases e1
      subst e3
      obtain ⟨a1, a2, a3⟩ := rmF_ok (g := g) c1
      have hle : 2 ^ i ≤ v := Nat.ge_two_pow_of_testBit c2
      have hpi : 0 < 2 ^ i := Nat.pow_pos (by decide)
      refine ⟨fun _ => ⟨vp_in_nI (by omega) (by decide), vp_in_nI (by omega) (by decide), ?_⟩, fun w => absurd w (nI_ne_m1 (by omega))⟩
      rw [tb_int v (by omega) i (by omega) c2, nI_clamp (by omega), nI_clamp (by omega), hP.2.1 i c1, nI_1]
      obtain ⟨P', r'⟩ := frY_arr (x := nI (rmN g i)) rfl hP hr
      refine ih (k + 1) (v - 2 ^ i) (rmN g i) (pre ++ [rmN g i]) q' _ (by omega) (by omega) a2 (by simp [hpre]) (by rw [← happ, c4]; simp) c3 (hM.si rfl rfl) P' r' (fun j r hj => ?_)
      by_cases z : j < pre.length
      · rw [List.getElem?_append_left z] at hj
        rw [si_nj _ _ _ (by omega)]
        exact ha j r hj
      · have hjl : j < pre.length + 1 := by
          have := (List.getElem?_eq_some_iff.mp hj).1
          simpa using this
        have ej : j = pre.length := by omega
        subst ej
        have : rmN g i = r := by simpa using hj
        rw [← this, hpre, si_at]
  exact go (cnb g 12) 0 (2 ^ cnb g 12 - 1) room [] q μ (by omega) (by omega) hroom rfl rfl (by rw [tvT_full]; exact e) frY.rf hP hr (fun i r hi => by simp at hi)
theorem tk_s {l : List Nat} {i r : Nat} (h : l[i]? = some r) : (l.take i).map (fun r => (nI r).toInt64) ++ [(nI r).toInt64] = (l.take (i + 1)).map (fun r => (nI r).toInt64) := by
  rw [List.take_succ, h]
  simp
set_option maxHeartbeats 1000000 in
theorem T_tour {D : Nat} (hD : 11 ≤ D) (μ : m2M) (h : REL μ) (x1 x2 : Int32) : stp D yX11_tour cX11_tour 5 (some .int) yX12_tour cX12_tour 4 (some .int) [.int x1, .int x2] μ REL := by
  obtain ⟨D, rfl⟩ : ∃ E, D = E + 1 := ⟨D - 1, by omega⟩
  obtain ⟨n, p, hR⟩ := id h
  have hR : RLn μ μ n p := hR
  have hp := hR.p8
  by_cases hx : in_ p x1 ∧ ((¬ x2 < 0 ∧ ¬ 4095 < x2) ∧ ¬ 6 < fJ6_bitCount_0f7a4 x2)
  case neg =>
    refine T_of (some (.int (-1))) μ ?_ (fun ν hv => ?_)
    · refine m2_MT.intro (ls := [.ref kC, .int x1, .int x2, .null, .null]) (by decide +kernel) rfl (ble rfl) (fun κ hk => ?_)
      exact B_X11_tour_0 hk (by omega) ⟨fun w => ⟨fun w2 => absurd ⟨(fX6_has_iff hR.2.1.1 hp).mp w, few_iff.mp w2⟩ hx, fun _ => ⟨rfl, hR.r, fr.rf⟩⟩, fun _ => ⟨rfl, hR.r, fr.rf⟩⟩
    · refine m2_MT.intro (ls := [.ref kM, .int x1, .int x2, .null]) (by decide +kernel) rfl (ble rfl) (fun κ hk => ?_)
      have e7 : (m2_si ν kM 22 0).1 kM 7 = nI p := (hv.thr.1 kM 7 rfl rfl).trans hR.2.1.2.1
      exact B_X12_tour_0 hk (by omega) ⟨fun w => ⟨fun w2 => absurd ⟨(fX12_isOne_iff e7 hp).mp w, six_iff.mp w2⟩ hx, fun _ => ⟨rfl, hv.thr, fr_si rfl fr.rf⟩⟩, fun _ => ⟨rfl, hv.thr, fr_si rfl fr.rf⟩⟩
  obtain ⟨hq0, hx0⟩ := id hx
  obtain ⟨⟨q, hq, rfl⟩, _⟩ := hx
  have w9 := few_iff.mpr hx0
  have w12 := six_iff.mpr hx0
  obtain ⟨g, rfl, hm⟩ := few_g hx0
  have hw := hR.hw q hq
  let R : Option Value × m2M := match tvT μ n g (hW μ q) with
    | none => (some (.int (-2)), μ)
    | some b => (some (.int (nI b.1)), tlM μ (b.2.map (fun r => (nI r).toInt64)))
  refine T_of R.1 R.2 ?_ (fun ν hv => ?_)
  · refine m2_MT.intro (ls := [.ref kC, .int (nI q), .int (bts g 12), .null, .null]) (by decide +kernel) rfl (ble rfl) (fun κ hk => ?_)
    refine B_X11_tour_0 hk (by omega) ⟨fun _ => ⟨fun _ => ⟨_, S_prepare (by omega) μ μ hR hm, fun μ10 h10 => ⟨vp_in_nI (by omega) (by decide), ?_⟩⟩, fun w => absurd w9 w⟩, fun w => absurd ((fX6_has_iff hR.2.1.1 hp).mpr hq0) w⟩
    obtain ⟨y10, P10, r10⟩ := h10
    have hR10 := y10.R hR
    have hcw := hR10.cw q hq
    rw [nI_clamp (by omega), hcw.1]
    refine ⟨_, S_fewestFrom (by omega) μ μ10 hR10 hm P10 r10 hcw.2, fun y15 μ16 h16 => ?_⟩
    obtain ⟨e15, e16⟩ := h16
    cases e15
    subst e16
    rw [hcw.1]
    rcases e : tvT μ n g (hW μ q) with _ | b
    · have eR : R = (some (.int (-2)), μ) := by show (match tvT μ n g (hW μ q) with | none => _ | some b => _) = _; rw [e]
      rw [eR] at hk ⊢
      exact ⟨fun w => absurd rfl w, fun _ => ⟨rfl, hR10.r, y10.2⟩⟩
    · have eR : R = (some (.int (nI b.1)), tlM μ (b.2.map (fun r => (nI r).toInt64))) := by show (match tvT μ n g (hW μ q) with | none => _ | some b => _) = _; rw [e]
      rw [eR] at hk ⊢
      obtain ⟨b1, b2, b3⟩ := tvS_le hR hw.2 e
      refine ⟨fun _ => ⟨_, S_arrange (by omega) μ _ hR10 hm P10 r10 hcw.2 e, fun μ23 h23 => ?_⟩, fun w => absurd w (show ¬ nI b.1 = -1 from nI_ne_m1 (by omega))⟩
      obtain ⟨y23, k23, a23⟩ := h23
      have hR23 := y23.R hR10
      have fC : frC μ μ23 := y10.2.tr y23.2
      refine dn (n := cnb g 12) (G := fun i => ∀ M, rC ((b.2.take i).map (fun r => (nI r).toInt64)) M → twC μ23 M → κ 77 [.ref kC, .int (nI q), .int (bts g 12), .int (nI b.1), .int (nI i)] [] M) (fun M hM ht => ?_) (fun i hi ih M hM ht => ?_) _ rC.i twC.i
      · refine B_X11_tour_77 hk ⟨fun _ => ⟨rfl, ?_, ?_⟩, fun w => absurd (by rw [ht.cc (by decide), k23]; exact nI_le (Nat.le_refl _) (by omega)) w⟩
        · have : b.2.take (cnb g 12) = b.2 := List.take_of_length_le (by omega)
          rw [this] at hM
          exact REL2.tell hR23.r hM ht (by simp; omega)
        · exact ht.fr rfl rfl fC
      · obtain ⟨r, er⟩ : ∃ r, b.2[i]? = some r := ⟨b.2[i]'(by omega), List.getElem?_eq_getElem (by omega)⟩
        refine B_X11_tour_77 hk ⟨fun w => absurd (by rw [ht.cc (by decide), k23] at w; exact w) (nI_ge hi (by omega)), fun _ => ⟨vp_in_nI (by omega) (by decide), ?_⟩⟩
        rw [nI_clamp (by omega), ht.cc (by decide), a23 i r er, nI_1]
        refine ⟨_, S_tellC _ _ hM (by simp; omega), fun μ5 h5 => ih μ5 ?_ (ht.tr h5.2)⟩
        rw [← tk_s er]
        exact h5.1
  · have hv' := hv.thr
    have f1 : frM ν (m2_si ν kM 22 0) := fr_si rfl fr.rf
    refine m2_MT.intro (ls := [.ref kM, .int (nI q), .int (bts g 12), .null]) (by decide +kernel) rfl (ble rfl) (fun κ hk => ?_)
    have e7 : (m2_si ν kM 22 0).1 kM 7 = nI p := (hv'.1 kM 7 rfl rfl).trans hR.2.1.2.1
    refine B_X12_tour_0 hk (by omega) ⟨fun _ => ⟨fun _ => ⟨vp_in_nI (by omega) (by decide), ?_⟩, fun w => absurd w12 w⟩, fun w => absurd ((fX12_isOne_iff e7 hp).mpr hq0) w⟩
    rw [nI_clamp (by omega), hv.1 kM_where q rfl rfl, hw.1]
    have hM5 : frZ (m2_si ν kM 22 0) (m2_si (m2_si ν kM 22 0) kM 52 (-1)) := frZ.rf.si rfl rfl
    have call := S_tourFrom μ μ hR (cnb g 12) (D := D) (k := 0) (s := 0) (room := hW μ q) (S := g) (P := []) (b := none) (m2_si (m2_si ν kM 22 0) kM 52 (-1)) (by omega) rfl rfl (by omega) (by omega) hw.2 (hv'.tr hM5.1.m) (si_at _ _ _ _) (fun i r hr => by simp at hr)
    refine ⟨_, call, fun μ11 h11 => ?_⟩
    obtain ⟨z1, _, b11⟩ := h11
    have hM11 := hM5.tr z1
    have v11 : vM μ μ11 := hv'.tr hM11.1.m
    have m11 : frM ν μ11 := f1.tr hM11.2
    have eb : mrg none (shf 0 [] (tvS (dO μ n) (cnb g 12) g (hW μ q))) = tvT μ n g (hW μ q) := by
      rw [shf_0]
      show mrg none (tvT μ n g (hW μ q)) = _
      cases tvT μ n g (hW μ q) <;> rfl
    rw [eb] at b11
    rcases e : tvT μ n g (hW μ q) with _ | b
    · have eR : R = (some (.int (-2)), μ) := by show (match tvT μ n g (hW μ q) with | none => _ | some b => _) = _; rw [e]
      rw [eR] at hk ⊢
      rw [e] at b11
      have b11 : μ11.1 kM 52 = -1 := b11
      exact ⟨fun w => absurd b11 w, fun _ => ⟨rfl, v11, m11⟩⟩
    · have eR : R = (some (.int (nI b.1)), tlM μ (b.2.map (fun r => (nI r).toInt64))) := by show (match tvT μ n g (hW μ q) with | none => _ | some b => _) = _; rw [e]
      rw [eR] at hk ⊢
      rw [e] at b11
      obtain ⟨c1, c2, c3⟩ := b11
      obtain ⟨b1, b2, b3⟩ := tvS_le hR hw.2 e
      refine ⟨fun _ => ?_, fun w => absurd (c1.symm.trans w) (nI_ne_m1 (by omega))⟩
      have kM_o : ∀ {M M' : m2M}, twM M M' → M'.1 kM 52 = M.1 kM 52 ∧ M'.1 kM_bestTour = M.1 kM_bestTour := by
        intro M M' ht
        obtain ⟨g', z', rfl⟩ := ht
        exact ⟨si_nj _ _ _ (by decide), si_nc _ _ _ (by decide)⟩
      refine dn (n := cnb g 12) (G := fun i => ∀ M, rM ((b.2.take i).map (fun r => (nI r).toInt64)) M → twM μ11 M → κ 58 [.ref kM, .int (nI q), .int (bts g 12), .int (nI i)] [] M) (fun M hM ht => ?_) (fun i hi ih M hM ht => ?_) _ rM.i twM.i
      · refine B_X12_tour_58 hk (Nat.zero_le _) ⟨fun _ => ⟨by rw [(kM_o ht).1, c1], ?_, ?_⟩, fun w => absurd (by rw [bitC (by decide)]; exact nI_le (Nat.le_refl _) (by omega)) w⟩
        · have : b.2.take (cnb g 12) = b.2 := List.take_of_length_le (by omega)
          rw [this] at hM
          exact v11.tell hM ht (by simp; omega)
        · exact ht.fr rfl rfl m11
      · obtain ⟨r, er⟩ : ∃ r, b.2[i]? = some r := ⟨b.2[i]'(by omega), List.getElem?_eq_getElem (by omega)⟩
        refine B_X12_tour_58 hk (Nat.zero_le _) ⟨fun w => absurd (by rw [bitC (by decide)] at w; exact w) (nI_ge hi (by omega)), fun _ => ⟨vp_in_nI (by omega) (by decide), ?_⟩⟩
        rw [nI_clamp (by omega), (kM_o ht).2, c3 i r er, nI_1]
        refine ⟨_, S_tellM _ _ hM (by simp; omega), fun μ8 h8 => ih μ8 ?_ (ht.tr h8.2)⟩
        rw [← tk_s er]
        exact h8.1
