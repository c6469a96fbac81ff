/-! order: Orders.goOn -/
def gnS (g Gn : Nat → Bool) : Nat → Bool := fun q => g q && !Gn (cnb g q)
theorem gnS_ad {g Gn : Nat → Bool} {i : Nat} (hi : i < cnb g 12) (hg : ∀ q, g q = true → q < 12) : rmB (gnS g Gn) (rmN g i) = gnS g (adB Gn i) := by
  obtain ⟨a1, a2, a3⟩ := rmF_ok (g := g) hi
  funext q
  unfold rmB gnS adB
  cases e : g q with
  | false => rfl
  | true =>
    have hq := hg q e
    have : decide (q = rmN g i) = decide (cnb g q = i) := by
      apply decide_eq_decide.mpr
      constructor
      · intro w; rw [w]; exact a3
      · intro w; rw [← w]; exact (rmN_at e hq).symm
    rw [this]
    cases Gn (cnb g q) <;> simp
def stC (b : tB) (M : m2M) : Prop := match b with
  | none => M.1 kO 8 = -1
  | some q => ∃ w t : Nat, q.1 = oky w t ∧ w ≤ 792 ∧ t ≤ 300 ∧ M.1 kO 8 = nI w ∧ M.1 kO 9 = nI t ∧ q.2.length ≤ 6 ∧ ∀ i r, q.2[i]? = some r → M.1 kO_best i = nI r
theorem stC.of {b : tB} {M M' : m2M} (h : stC b M) (h1 : M'.1 kO 8 = M.1 kO 8) (h2 : M'.1 kO 9 = M.1 kO 9) (h3 : M'.1 kO_best = M.1 kO_best) : stC b M' := by
  cases b with
  | none => exact h1.trans h
  | some q =>
    obtain ⟨w, t, a1, a2, a3, a4, a5, a6, a7⟩ := h
    exact ⟨w, t, a1, a2, a3, h1.trans a4, h2.trans a5, a6, fun i r hi => by rw [h3]; exact a7 i r hi⟩
theorem m1_lt {a : Nat} (h : a < 2 ^ 31) : (-1 : Int32) < nI a := by
  rw [Int32.lt_iff_toInt_lt, nI_toInt h]
  show (-1 : Int) < _
  omega
theorem cbb_no {b : tB} {M : m2M} {hp t mu : Nat} (hs : stC b M) (h11 : M.1 kO 11 = nI hp) (h12 : M.1 kO 12 = nI t) (h14 : M.1 kO 14 = nI mu) (b1 : hp ≤ 792) (b2 : t + mu ≤ 10000) (hn : ¬ fX4_canBeBetter M = 1) : ∃ bw bt bl, b = some (oky bw bt, bl) ∧ bw ≤ 792 ∧ bt ≤ 300 ∧ (hp < bw ∨ (hp = bw ∧ bt ≤ t + mu)) := by
  unfold fX4_canBeBetter at hn
  rw [h11, h12, h14, nI_add] at hn
  cases b with
  | none =>
    have hs : M.1 kO 8 = -1 := hs
    rw [hs, if_pos (m1_lt (by omega))] at hn
    exact absurd rfl hn
  | some q =>
    obtain ⟨w, t', a1, a2, a3, a4, a5, a6, a7⟩ := hs
    rw [a4, a5] at hn
    refine ⟨w, t', q.2, by rw [← a1], a2, a3, ?_⟩
    by_cases z : w < hp
    · rw [if_pos (nI_lt z (by omega))] at hn; exact absurd rfl hn
    · rw [if_neg (nI_nlt (by omega) (by omega))] at hn
      by_cases y : hp = w
      · rw [if_pos (by rw [y])] at hn
        by_cases x : t' ≤ t + mu
        · exact Or.inr ⟨y, x⟩
        · rw [if_neg (nI_ge (by omega) (by omega))] at hn; exact absurd rfl hn
      · exact Or.inl (by omega)
theorem cbb_yes {b : tB} {M : m2M} {hp t : Nat} (hs : stC b M) (h11 : M.1 kO 11 = nI hp) (h12 : M.1 kO 12 = nI t) (h14 : M.1 kO 14 = nI 0) (b1 : hp ≤ 792) (b2 : t ≤ 300) (hn : fX4_canBeBetter M = 1) : ∀ q0, b = some q0 → oky hp t < q0.1 := by
  intro q0 e
  subst e
  unfold fX4_canBeBetter at hn
  rw [h11, h12, h14, nI_add] at hn
  obtain ⟨w, t', a1, a2, a3, a4, a5, a6, a7⟩ := hs
  rw [a4, a5] at hn
  rw [a1]
  refine (oky_lt b1 a2 b2 a3).mpr ?_
  by_cases z : w < hp
  · exact Or.inl z
  · rw [if_neg (nI_nlt (by omega) (by omega))] at hn
    by_cases y : hp = w
    · rw [if_pos (by rw [y])] at hn
      by_cases x : t' ≤ t + 0
      · rw [if_pos (nI_le x (by omega))] at hn; exact absurd hn (by decide)
      · exact Or.inr ⟨y, by omega⟩
    · rw [if_neg (fun q => y ((nI_eq (by omega) (by omega)).mp q))] at hn; exact absurd hn (by decide)
/-- what goOn leaves as it was -/
def frO (dp : Nat) (μ μ' : m2M) : Prop := frC μ μ' ∧ (∀ j, j ≠ 8 → j ≠ 9 → μ'.1 kO j = μ.1 kO j) ∧ μ'.1 kO_goers = μ.1 kO_goers ∧ μ'.1 kO_must = μ.1 kO_must ∧ (∀ c, 127 ≤ c → c < 127 + 5 * dp → μ'.1 c = μ.1 c) ∧ ∀ i, i < dp → μ'.1 kO_tried i = μ.1 kO_tried i
theorem kpt.of {μ μ' : m2M} {i n p : Nat} {L W R O : Nat → Int32} {hr : Int32} (h : kpt μ i n p L W R O hr) (e : ∀ c, kK i ≤ c → c ≤ kK i + 4 → μ'.1 c = μ.1 c) : kpt μ' i n p L W R O hr := by
  unfold kpt at *
  rw [e (kK i) (by omega) (by omega), e (kK i + 1) (by omega) (by omega), e (kK i + 2) (by omega) (by omega), e (kK i + 3) (by omega) (by omega), e (kK i + 4) (by omega) (by omega)]
  exact h
theorem S_backJ {D n p i : Nat} (hD : 1 ≤ D) (hi : i < 10) (ν ν' μ : m2M) (hw : ∃ μ0, RLn ν μ0 n p) (h : RLn ν' μ n p) (hm : mvd n p ν ν') (hk : kpt μ i n p (ν.1 kM_left) (ν.1 kM_where) (ν.1 kM_wasThere) (ν.1 kM_isDone) (ν.1 kM 16)) : m2_MT D yX3_giveBack cX3_giveBack 4 none [.ref (kK i), .ref kD, .ref kP] μ (fun _ μ' => RLn ν μ' n p ∧ frC μ μ' ∧ ∀ c, 49 ≤ c → μ'.1 c = μ.1 c) := by
  obtain ⟨μ0, hR0⟩ := hw
  refine (S_giveBack (i := i) hD hi h.n20 h.p8 μ hk (fun q hq => ?_)).mono ?_
  · obtain ⟨_, b1, b2, b3, b4, b5, b6, b7, b8, b9⟩ := hR0.2.1.2.2.2 q hq
    exact ⟨b7, b8⟩
  · rintro r μ' rfl
    refine ⟨RLn_back (Or.inr trivial) ⟨μ0, hR0⟩ h hm (fun _ _ => rfl) (fun _ _ => ⟨rfl, rfl, rfl⟩) rfl, frC_gbC fr.rf, fun c hc => ?_⟩
    have e1 : kD = 8 := rfl
    have e2 : kD_left = 14 := rfl
    have e3 : kP_where = 16 := rfl
    have e4 : kP_reached = 22 := rfl
    have e5 : kP_done = 23 := rfl
    unfold gbC
    rw [m2_sr_ne _ _ (by omega), m2_sr_ne _ _ (by omega), m2_sr_ne _ _ (by omega), m2_sr_ne _ _ (by omega), si_nc _ _ _ (by omega)]
theorem frG.k {μ μ' : m2M} (h : frG μ μ') {c : Nat} (hc : 49 ≤ c) : μ'.1 c = μ.1 c := h.h.k hc
theorem muS_b {ν μ : m2M} {n p : Nat} {S : Nat → Bool} (h : RLn ν μ n p) (hS : ∀ q, S q = true → q < p ∧ gN ν q ≠ -1) : muS ν n S p ≤ 176 := by
  have hp8 := h.p8
  have := bf_sum_b (f := muF ν n S) (b := 22) (N := p) (fun i hi => by
    unfold muF
    by_cases z : S i = true
    · rw [if_pos z]; exact muN_22 h hi (gN_err (by omega) (hS i z).2).1
    · rw [if_neg z]; omega)
  show bf_sum _ p ≤ 176
  omega
set_option maxHeartbeats 4000000 in
theorem S_ordOn {n p pl : Nat} (ν μ0 : m2M) (h : RLn ν μ0 n p) (hpl : pl < 4) (hm : cnb (bzB ν p) 12 ≤ 6) : ∀ (kk : Nat) {D : Nat} {Gn : Nat → Bool} {P : List Nat} {b : tB} (μ : m2M), kk + 7 ≤ D → P.length + kk = cnb (bzB ν p) 12 → okS ν p (gnS (bzB ν p) Gn) P → cnb (gnS (bzB ν p) Gn) 12 = kk → RLn (lnS n p pl ν P).1 μ n p → oC ν n p pl μ → μ.1 kO 11 = nI (hpN (lnS n p pl ν P).1 (gnS (bzB ν p) Gn) p) → μ.1 kO 12 = nI (lnS n p pl ν P).2 → μ.1 kO 14 = nI (muS ν n (gnS (bzB ν p) Gn) p) → (∀ i r, P[i]? = some r → μ.1 kO_tried i = nI r) → stC b μ → fX4_canBeBetter μ = 1 → m2_MT D yX4_goOn cX4_goOn 8 none [.ref kO, .int (nI P.length), .int (bts Gn 12)] μ (fun _ μ' => RLn (lnS n p pl ν P).1 μ' n p ∧ frO P.length μ μ' ∧ stC (mrg b (odV n p pl ν kk (gnS (bzB ν p) Gn) P)) μ') := by
  have hp8 := h.p8
  have hg12 : ∀ q, bzB ν p q = true → q < 12 := fun q hq => by have := (bzB_iff.mp hq).1; omega
  intro kk
  induction kk with
  | zero =>
    intro D Gn P b μ hD hPk hS hc hR hC h11 h12 h14 htr hb hcb
    obtain ⟨D, rfl⟩ : ∃ E, D = E + 2 := ⟨D - 2, by omega⟩
    have hz := cnb_z hc
    have e1 : hpN (lnS n p pl ν P).1 (gnS (bzB ν p) Gn) p = wdN (lnS n p pl ν P).1 p := by
      rw [wdN_sum]
      refine bf_sum_cg (fun i hi => ?_)
      unfold hpF
      rw [hz i (by omega)]
      rfl
    have e2 : muS ν n (gnS (bzB ν p) Gn) p = 0 := by
      have : bf_sum (muF ν n (gnS (bzB ν p) Gn)) p ≤ 0 * p := bf_sum_b (fun i hi => by unfold muF; rw [hz i (by omega)]; exact Nat.le_refl 0)
      show bf_sum (muF ν n (gnS (bzB ν p) Gn)) p = 0
      omega
    rw [e1] at h11
    rw [e2] at h14
    have hw := wdN_792 hR
    have ht := (lnS_ok (pl := pl) h P hS.2).2.2.1
    have hlt := cbb_yes hb h11 h12 h14 hw (by omega) hcb
    refine m2_MT.intro (ls := [.ref kO, .int (nI P.length), .int (bts Gn 12), .null, .null, .null, .null, .null]) (by decide +kernel) rfl (ble rfl) (fun κ hκ => ?_)
    refine B_X4_goOn_0 hκ ⟨fun w => absurd (by rw [hC.1, ← hPk] at w; exact w) (nI_nlt (Nat.le_refl _) (by omega)), fun _ => ⟨fun _ μ' => RLn (lnS n p pl ν P).1 μ' n p ∧ frO P.length μ μ' ∧ stC (mrg b (odV n p pl ν 0 (gnS (bzB ν p) Gn) P)) μ', ?_, fun μ10 h10 => h10⟩⟩
    refine m2_MT.intro (ls := [.ref kO]) (by decide +kernel) rfl (ble rfl) (fun κ hκ => ?_)
    have e7 : μ.1 kO 7 = nI P.length := by rw [hC.1, ← hPk]; rfl
    refine B_X4_adopt_0 hκ ?_
    rw [e7, c0_0, nI_clamp (by omega), h11, h12]
    have em : mrg b (odV n p pl ν 0 (gnS (bzB ν p) Gn) P) = some (oky (wdN (lnS n p pl ν P).1 p) (lnS n p pl ν P).2, P) := mrg_new hlt
    rw [em]
    refine ⟨nI_pos (by omega), by omega, ?_, ⟨?_, fun j j1 j2 => ?_, ?_, ?_, fun c c1 c2 => ?_, fun i hi => ?_⟩, ?_⟩
    · exact (jC_sr (jC_si (jC_si jC.rf rfl rfl) rfl rfl) (fun _ => rfl) rfl).R hR
    · exact fr_sr rfl (fr_si rfl (fr_si rfl fr.rf))
    · rw [m2_sr_ne _ _ (by decide), si_nj _ _ _ j2, si_nj _ _ _ j1]
    · rw [m2_sr_ne _ _ (by decide), si_nc _ _ _ (by decide), si_nc _ _ _ (by decide)]
    · rw [m2_sr_ne _ _ (by decide), si_nc _ _ _ (by decide), si_nc _ _ _ (by decide)]
    · rw [m2_sr_ne _ _ (show c ≠ kO_best by show c ≠ 53; omega), si_nc _ _ _ (show c ≠ kO by show c ≠ 49; omega), si_nc _ _ _ (show c ≠ kO by show c ≠ 49; omega)]
    · rw [m2_sr_ne _ _ (by decide), si_nc _ _ _ (by decide), si_nc _ _ _ (by decide)]
    · refine ⟨_, _, rfl, hw, by omega, ?_, ?_, by show P.length ≤ 6; omega, fun i r hi => ?_⟩
      · rw [m2_sr_ne _ _ (by decide), si_nj _ _ _ (by decide), si_at]
      · rw [m2_sr_ne _ _ (by decide), si_at]
      · have hil := (List.getElem?_eq_some_iff.mp hi).1
        have hil : i < P.length := hil
        rw [m2_sr_same, pk_cpy_in (Nat.zero_le i) (by omega), si_nc _ _ _ (by decide), si_nc _ _ _ (by decide)]
        simp only [Nat.zero_add, Nat.sub_zero]
        exact htr i r hi
  | succ kk ih =>
    intro D Gn P b μ hD hPk hS hc hR hC h11 h12 h14 htr hb hcb
    obtain ⟨D, rfl⟩ : ∃ E, D = E + 1 := ⟨D - 1, by omega⟩
    have hlnP := lnS_ok (pl := pl) h P hS.2
    have hP5 : P.length < 6 := by omega
    refine m2_MT.intro (ls := [.ref kO, .int (nI P.length), .int (bts Gn 12), .null, .null, .null, .null, .null]) (by decide +kernel) rfl (ble rfl) (fun κ hκ => ?_)
    refine B_X4_goOn_0 hκ ⟨fun _ => ⟨P.length + 4, by rw [Nat.add_sub_cancel], ⟨by omega, by omega⟩, _, S_take (i := P.length + 4) (by omega) (by omega) hR.n20 hR.p8 μ hR.1.1 hR.2.1.1 hR.b01s, fun μ5 h5 => ?_⟩, fun w => absurd (by rw [hC.1]; exact nI_lt (by omega) (by omega)) w⟩
    obtain ⟨xk, _, xf⟩ := h5
    have ek : kK (P.length + 4) = 127 + 5 * P.length := by show 107 + 5 * (P.length + 4) = _; omega
    have k5 := kpt_rel hR xk
    have hR5 := hR.c (fr_kk3 (by omega) xf)
    have c5 : ∀ c, c < 127 + 5 * P.length → μ5.1 c = μ.1 c := fun c hc => (xf c (by
      unfold kkS
      cases z : Nat.ble (kK (P.length + 4)) c with
      | false => rfl
      | true => have := Nat.le_of_ble_eq_true z; omega)).1
    have fC5 : frC μ μ5 := fr_kk xf
    rw [h11, h12, h14]
    have hcp : cnb (bzB ν p) p = cnb (bzB ν p) 12 := (cnb_end (by omega) (fun i h1 _ => by unfold bzB; rw [decide_eq_false (by omega)]; rfl)).symm
    have eix : tvL (fun q => if gnS (bzB ν p) Gn q = true then odV n p pl ν kk (rmB (gnS (bzB ν p) Gn) q) (P ++ [q]) else none) p = tvL (fun i => if gnS (bzB ν p) Gn (rmN (bzB ν p) i) = true then odV n p pl ν kk (rmB (gnS (bzB ν p) Gn) (rmN (bzB ν p) i)) (P ++ [rmN (bzB ν p) i]) else none) (cnb (bzB ν p) 12) := by
      rw [← hcp]
      exact tvL_ix (g := bzB ν p) (rm := rmN (bzB ν p)) (fun r hr e => rmN_at e hr) (fun r hr e => by unfold gnS; rw [e]; rfl) p (by omega)
    refine dn (n := cnb (bzB ν p) 12) (G := fun i => ∀ M : m2M, RLn (lnS n p pl ν P).1 M n p → frO P.length μ M → kpt M (P.length + 4) n p ((lnS n p pl ν P).1.1 kM_left) ((lnS n p pl ν P).1.1 kM_where) ((lnS n p pl ν P).1.1 kM_wasThere) ((lnS n p pl ν P).1.1 kM_isDone) ((lnS n p pl ν P).1.1 kM 16) → stC (mrg b (tvL (fun i => if gnS (bzB ν p) Gn (rmN (bzB ν p) i) = true then odV n p pl ν kk (rmB (gnS (bzB ν p) Gn) (rmN (bzB ν p) i)) (P ++ [rmN (bzB ν p) i]) else none) i)) M → κ 50 [.ref kO, .int (nI P.length), .int (bts Gn 12), .int (nI (hpN (lnS n p pl ν P).1 (gnS (bzB ν p) Gn) p)), .int (nI (lnS n p pl ν P).2), .int (nI (muS ν n (gnS (bzB ν p) Gn) p)), .int (nI i), .null] [] M) (fun M a1 a2 a3 a4 => ?_) (fun i hi ihf M a1 a2 a3 a4 => ?_) μ5 hR5 ⟨fC5, fun j _ _ => by rw [c5 kO (by show 49 < _; omega)], c5 _ (by show 51 < _; omega), c5 _ (by show 54 < _; omega), fun c _ c2 => c5 c c2, fun i _ => by rw [c5 kO_tried (by show 52 < _; omega)]⟩ k5 (hb.of (by rw [c5 kO (by show 49 < _; omega)]) (by rw [c5 kO (by show 49 < _; omega)]) (c5 _ (by show 53 < _; omega)))
    · have e7 : M.1 kO 7 = nI (cnb (bzB ν p) 12) := (a2.2.1 7 (by decide) (by decide)).trans hC.1
      refine B_X4_goOn_50 hκ (Nat.zero_le _) ⟨fun _ => ⟨a1, a2, ?_⟩, fun w => absurd (by rw [e7]; exact nI_le (Nat.le_refl _) (by omega)) w⟩
      show stC (mrg b (tvL (fun q => if gnS (bzB ν p) Gn q = true then odV n p pl ν kk (rmB (gnS (bzB ν p) Gn) q) (P ++ [q]) else none) p)) M
      rw [eix]
      exact a4
    · have e7 : M.1 kO 7 = nI (cnb (bzB ν p) 12) := (a2.2.1 7 (by decide) (by decide)).trans hC.1
      obtain ⟨r1, r2, r3⟩ := rmF_ok (g := bzB ν p) hi
      have r1 : bzB ν p (rmN (bzB ν p) i) = true := r1
      have r2 : rmN (bzB ν p) i < 12 := r2
      have r3 : cnb (bzB ν p) (rmN (bzB ν p) i) = i := r3
      have step : mrg b (tvL (fun i => if gnS (bzB ν p) Gn (rmN (bzB ν p) i) = true then odV n p pl ν kk (rmB (gnS (bzB ν p) Gn) (rmN (bzB ν p) i)) (P ++ [rmN (bzB ν p) i]) else none) (i + 1)) = mrg (mrg b (tvL (fun i => if gnS (bzB ν p) Gn (rmN (bzB ν p) i) = true then odV n p pl ν kk (rmB (gnS (bzB ν p) Gn) (rmN (bzB ν p) i)) (P ++ [rmN (bzB ν p) i]) else none) i)) (if gnS (bzB ν p) Gn (rmN (bzB ν p) i) = true then odV n p pl ν kk (rmB (gnS (bzB ν p) Gn) (rmN (bzB ν p) i)) (P ++ [rmN (bzB ν p) i]) else none) := (mrg_assoc _ _ _).symm
      refine B_X4_goOn_50 hκ (Nat.zero_le _) ⟨fun w => absurd (by rw [e7] at w; exact w) (nI_ge hi (by omega)), fun _ => ⟨fun w => ?_, fun w => ⟨vp_in_nI (by omega) (by decide), vp_in_nI (by omega) (by decide), ?_⟩⟩⟩
      · have hG : Gn i = true := (hasB (by omega)).mp w
        refine B_X4_goOn_216 hκ ?_
        rw [nI_1]
        refine ihf M a1 a2 a3 ?_
        have : ¬ gnS (bzB ν p) Gn (rmN (bzB ν p) i) = true := by unfold gnS; rw [r3, hG]; simp
        rw [step, if_neg this]
        exact a4
      · have hG : Gn i = false := by
          cases z : Gn i with
          | false => rfl
          | true => exact absurd ((hasB (by omega)).mpr z) w
        have hSq : gnS (bzB ν p) Gn (rmN (bzB ν p) i) = true := by unfold gnS; rw [r3, hG, r1]; rfl
        rw [if_pos hSq] at step
        obtain ⟨hqp, hqP, hqg⟩ := hS.1 _ hSq
        have eg : M.1 kO_goers i = nI (rmN (bzB ν p) i) := by rw [a2.2.2.1]; exact hC.2.2.1 i hi
        have em : ∀ X : m2M, X.1 kO_must = μ.1 kO_must → X.1 kO_must i = nI (muN ν n (rmN (bzB ν p) i)) := fun X hX => by rw [hX]; exact hC.2.2.2 i hi
        have e10 : M.1 kO 10 = nI pl := (a2.2.1 10 (by decide) (by decide)).trans hC.2.1
        have e12 : M.1 kO 12 = nI (lnS n p pl ν P).2 := (a2.2.1 12 (by decide) (by decide)).trans h12
        generalize hq : rmN (bzB ν p) i = q at *
        rw [nI_clamp (by omega), nI_clamp (by omega), eg, e10]
        have j1 : jC M (m2_si M kO_tried P.length (nI q)) := jC_si jC.rf rfl rfl
        refine ⟨_, S_trip (by omega) _ _ (j1.R a1) hqp hpl, fun y11 μ12 hx12 => ?_⟩
        obtain ⟨x1, x2, x3⟩ := hx12
        cases x1
        have els : lnS n p pl ν (P ++ [q]) = ((tripN n p q pl 2 (lnS n p pl ν P).1).1, (lnS n p pl ν P).2 + (tripN n p q pl 2 (lnS n p pl ν P).1).2.1) := lnS_s n p pl ν P q
        have el1 : (tripN n p q pl 2 (lnS n p pl ν P).1).1 = (lnS n p pl ν (P ++ [q])).1 := by rw [els]
        have el2 : (lnS n p pl ν P).2 + (tripN n p q pl 2 (lnS n p pl ν P).1).2.1 = (lnS n p pl ν (P ++ [q])).2 := by rw [els]
        rw [el1] at x2
        have hS' := hS.rm hSq
        obtain ⟨s1, s2⟩ := hp_step (pl := pl) h hS hSq
        have hln' := lnS_ok (pl := pl) h (P ++ [q]) hS'.2
        have cc : ∀ c, 49 ≤ c → c ≠ kO_tried → μ12.1 c = M.1 c := fun c c1 c2 => by rw [x3.k c1, si_nc _ _ _ c2]
        have cO : ∀ j, μ12.1 kO j = M.1 kO j := fun j => by rw [cc kO (by decide) (by decide)]
        have cw : μ12.1 kP_worth q = nI (woN ν q) := by
          have := (x2.2.1.2.2.2 q hqp).1.2.2.2.1.trans (x2.wo hqp).1
          rw [this]
          have e : woN (lnS n p pl ν (P ++ [q])).1 q = woN ν q := wo_oth (hln'.1.2.1 kM_worth (by decide) (by decide) (by decide) (by decide))
          rw [e]
        have cd : μ12.1 kP_done q = (lnS n p pl ν (P ++ [q])).1.1 kM_isDone q := (x2.2.1.2.2.2 q hqp).1.2.2.2.2.2.2.2
        have cm : μ12.1 kO_must i = nI (muN ν n q) := em μ12 ((cc _ (by decide) (by decide)).trans a2.2.2.2.1)
        refine ⟨vp_in_nI (by omega) (by decide), ?_⟩
        rw [nI_clamp (by omega), cd, cw, cO 14, cO 11, cm, e12, nI_add, el2, (a2.2.1 14 (by decide) (by decide)).trans h14, (a2.2.1 11 (by decide) (by decide)).trans h11, pk_sub (by omega)]
        have emu : muS ν n (gnS (bzB ν p) Gn) p - muN ν n q = muS ν n (rmB (gnS (bzB ν p) Gn) q) p := by omega
        rw [emu]
        have hrm : rmB (gnS (bzB ν p) Gn) q = gnS (bzB ν p) (adB Gn i) := by rw [← hq]; exact gnS_ad hi hg12
        have fC12 : frC μ μ12 := a2.1.tr ((fr_si rfl fr.rf).tr x3.c)
        -- it is undone
        have back : ∀ X : m2M, RLn (lnS n p pl ν (P ++ [q])).1 X n p → frC μ X → (∀ j, j ≠ 8 → j ≠ 9 → j ≠ 11 → j ≠ 12 → j ≠ 14 → X.1 kO j = μ.1 kO j) → X.1 kO_goers = μ.1 kO_goers → X.1 kO_must = μ.1 kO_must → (∀ c, 127 ≤ c → c < 127 + 5 * (P.length + 1) → X.1 c = M.1 c) → (∀ j, j < P.length → X.1 kO_tried j = μ.1 kO_tried j) → stC (mrg (mrg b (tvL (fun i => if gnS (bzB ν p) Gn (rmN (bzB ν p) i) = true then odV n p pl ν kk (rmB (gnS (bzB ν p) Gn) (rmN (bzB ν p) i)) (P ++ [rmN (bzB ν p) i]) else none) i)) (odV n p pl ν kk (rmB (gnS (bzB ν p) Gn) q) (P ++ [q]))) X → κ 182 [.ref kO, .int (nI P.length), .int (bts Gn 12), .int (nI (hpN (lnS n p pl ν P).1 (gnS (bzB ν p) Gn) p)), .int (nI (lnS n p pl ν P).2), .int (nI (muS ν n (gnS (bzB ν p) Gn) p)), .int (nI i), .int (nI q)] [] X := by
          intro X b1 b2 b3 b4 b5 b6 b7 b8
          have jX : jC X (m2_si (m2_si (m2_si X kO 11 (nI (hpN (lnS n p pl ν P).1 (gnS (bzB ν p) Gn) p))) kO 12 (nI (lnS n p pl ν P).2)) kO 14 (nI (muS ν n (gnS (bzB ν p) Gn) p))) := jC_si (jC_si (jC_si jC.rf rfl rfl) rfl rfl) rfl rfl
          have mv : mvd n p (lnS n p pl ν P).1 (lnS n p pl ν (P ++ [q])).1 := by rw [← el1]; exact mvd_trip hqp 2 a1 (mvd.of vM.rf)
          have nc : ∀ c, c ≠ kO → (m2_si (m2_si (m2_si X kO 11 (nI (hpN (lnS n p pl ν P).1 (gnS (bzB ν p) Gn) p))) kO 12 (nI (lnS n p pl ν P).2)) kO 14 (nI (muS ν n (gnS (bzB ν p) Gn) p))).1 c = X.1 c := fun c hc => by rw [si_nc _ _ _ hc, si_nc _ _ _ hc, si_nc _ _ _ hc]
          refine B_X4_goOn_182 hκ ⟨P.length + 4, by rw [Nat.add_sub_cancel], ⟨by omega, by omega⟩, _, S_backJ (i := P.length + 4) (by omega) (by omega) (lnS n p pl ν P).1 _ _ ⟨M, a1⟩ (jX.R b1) mv (a3.of (fun c c1 c2 => by
            rw [nc c (show c ≠ 49 by omega)]
            exact b6 c (by omega) (by omega))), fun μ4 h4 => ?_⟩
          obtain ⟨y1, y2, y3⟩ := h4
          refine B_X4_goOn_216 hκ ?_
          rw [nI_1]
          have y4 : ∀ c, 49 ≤ c → c ≠ kO → μ4.1 c = X.1 c := fun c c1 c2 => (y3 c c1).trans (nc c c2)
          have yO := y3 kO (by decide)
          refine ihf μ4 y1 ⟨b2.tr (jX.2.c.tr y2), fun j j1 j2 => ?_, (y4 _ (by decide) (by decide)).trans b4, (y4 _ (by decide) (by decide)).trans b5, fun c c1 c2 => ?_, fun j hj => ?_⟩ (a3.of (fun c c1 c2 => ?_)) ?_
          · rw [yO]
            by_cases z1 : j = 14
            · rw [z1, si_at]; exact h14.symm
            · rw [si_nj _ _ _ z1]
              by_cases z2 : j = 12
              · rw [z2, si_at]; exact h12.symm
              · rw [si_nj _ _ _ z2]
                by_cases z3 : j = 11
                · rw [z3, si_at]; exact h11.symm
                · rw [si_nj _ _ _ z3]
                  exact b3 j j1 j2 z3 z2 z1
          · rw [y4 c (by omega) (show c ≠ 49 by omega), b6 c c1 (by omega)]
            exact a2.2.2.2.2.1 c c1 c2
          · rw [y4 kO_tried (by decide) (by decide)]
            exact b7 j hj
          · rw [y4 c (by omega) (show c ≠ 49 by omega)]
            exact b6 c (by omega) (by omega)
          · rw [step]
            refine b8.of ?_ ?_ (y4 _ (by decide) (by decide))
            · rw [yO, si_nj _ _ _ (by decide), si_nj _ _ _ (by decide), si_nj _ _ _ (by decide)]
            · rw [yO, si_nj _ _ _ (by decide), si_nj _ _ _ (by decide), si_nj _ _ _ (by decide)]
        -- whoever has come, or not
        have both : ∀ hx : Int32, hx = nI (hpN (lnS n p pl ν (P ++ [q])).1 (rmB (gnS (bzB ν p) Gn) q) p) → ((fX4_canBeBetter (m2_si (m2_si (m2_si μ12 kO 12 (nI (lnS n p pl ν (P ++ [q])).2)) kO 14 (nI (muS ν n (rmB (gnS (bzB ν p) Gn) q) p))) kO 11 hx)) = 1 → ∃ Q27 : Option Value → m2M → Prop, m2_MT D yX4_goOn cX4_goOn 8 none [.ref kO, .int (nI P.length + 1), .int (bts Gn 12 ||| ((1 : Int32) <<< (nI i &&& 31)))] (m2_si (m2_si (m2_si μ12 kO 12 (nI (lnS n p pl ν (P ++ [q])).2)) kO 14 (nI (muS ν n (rmB (gnS (bzB ν p) Gn) q) p))) kO 11 hx) Q27 ∧ ∀ (μ26 : m2M), Q27 none μ26 → (κ 182 [.ref kO, .int (nI P.length), .int (bts Gn 12), .int (nI (hpN (lnS n p pl ν P).1 (gnS (bzB ν p) Gn) p)), .int (nI (lnS n p pl ν P).2), .int (nI (muS ν n (gnS (bzB ν p) Gn) p)), .int (nI i), .int (nI q)] [] μ26)) ∧ (¬ (fX4_canBeBetter (m2_si (m2_si (m2_si μ12 kO 12 (nI (lnS n p pl ν (P ++ [q])).2)) kO 14 (nI (muS ν n (rmB (gnS (bzB ν p) Gn) q) p))) kO 11 hx)) = 1 → κ 182 [.ref kO, .int (nI P.length), .int (bts Gn 12), .int (nI (hpN (lnS n p pl ν P).1 (gnS (bzB ν p) Gn) p)), .int (nI (lnS n p pl ν P).2), .int (nI (muS ν n (gnS (bzB ν p) Gn) p)), .int (nI i), .int (nI q)] [] (m2_si (m2_si (m2_si μ12 kO 12 (nI (lnS n p pl ν (P ++ [q])).2)) kO 14 (nI (muS ν n (rmB (gnS (bzB ν p) Gn) q) p))) kO 11 hx)) := by
          intro hx ehx
          generalize hX : m2_si (m2_si (m2_si μ12 kO 12 (nI (lnS n p pl ν (P ++ [q])).2)) kO 14 (nI (muS ν n (rmB (gnS (bzB ν p) Gn) q) p))) kO 11 hx = X
          have jX : jC μ12 X := by rw [← hX]; exact jC_si (jC_si (jC_si jC.rf rfl rfl) rfl rfl) rfl rfl
          have nX : ∀ c, c ≠ kO → X.1 c = μ12.1 c := fun c hc => by rw [← hX, si_nc _ _ _ hc, si_nc _ _ _ hc, si_nc _ _ _ hc]
          have oX : ∀ j, j ≠ 11 → j ≠ 12 → j ≠ 14 → X.1 kO j = M.1 kO j := fun j j1 j2 j3 => by rw [← hX, si_nj _ _ _ j1, si_nj _ _ _ j3, si_nj _ _ _ j2]; exact cO j
          have x11 : X.1 kO 11 = nI (hpN (lnS n p pl ν (P ++ [q])).1 (rmB (gnS (bzB ν p) Gn) q) p) := by rw [← hX, si_at]; exact ehx
          have x12 : X.1 kO 12 = nI (lnS n p pl ν (P ++ [q])).2 := by rw [← hX, si_nj _ _ _ (by decide), si_nj _ _ _ (by decide), si_at]
          have x14 : X.1 kO 14 = nI (muS ν n (rmB (gnS (bzB ν p) Gn) q) p) := by rw [← hX, si_nj _ _ _ (by decide), si_at]
          have hRX := jX.R x2
          have fCX : frC μ X := fC12.tr jX.2.c
          have gX : X.1 kO_goers = μ.1 kO_goers := (nX _ (by decide)).trans ((cc _ (by decide) (by decide)).trans a2.2.2.1)
          have mX : X.1 kO_must = μ.1 kO_must := (nX _ (by decide)).trans ((cc _ (by decide) (by decide)).trans a2.2.2.2.1)
          have cX : ∀ c, 127 ≤ c → X.1 c = M.1 c := fun c c1 => (nX c (show c ≠ 49 by omega)).trans (cc c (by omega) (show c ≠ 52 by omega))
          have tX : ∀ j, X.1 kO_tried j = (m2_si M kO_tried P.length (nI q)).1 kO_tried j := fun j => by rw [nX _ (by decide), x3.k (by decide)]
          have sX : stC (mrg b (tvL (fun i => if gnS (bzB ν p) Gn (rmN (bzB ν p) i) = true then odV n p pl ν kk (rmB (gnS (bzB ν p) Gn) (rmN (bzB ν p) i)) (P ++ [rmN (bzB ν p) i]) else none) i)) X := a4.of (oX 8 (by decide) (by decide) (by decide)) (oX 9 (by decide) (by decide) (by decide)) ((nX _ (by decide)).trans (cc _ (by decide) (by decide)))
          have hle := hpN_le (pl := pl) (S := rmB (gnS (bzB ν p) Gn) q) h hS'.2
          have hmb := muS_b h (fun r hr => ⟨(hS'.1 r hr).1, (hS'.1 r hr).2.2⟩)
          have hck : cnb (rmB (gnS (bzB ν p) Gn) q) 12 = kk := by have := cnb_rm hSq (by omega); omega
          have htl := hln'.2.2.1
          have hl1 : (P ++ [q]).length = P.length + 1 := by simp
          refine ⟨fun cb => ?_, fun cb => ?_⟩
          · rw [nI_1, show bts Gn 12 ||| ((1 : Int32) <<< (nI i &&& 31)) = bts (adB Gn i) 12 from bts_or (by decide) (by omega)]
            rw [hrm] at x11 x14 hS' hck
            have call := ih (D := D) (Gn := adB Gn i) (P := P ++ [q]) (b := mrg b (tvL (fun i => if gnS (bzB ν p) Gn (rmN (bzB ν p) i) = true then odV n p pl ν kk (rmB (gnS (bzB ν p) Gn) (rmN (bzB ν p) i)) (P ++ [rmN (bzB ν p) i]) else none) i)) X (by omega) (by omega) hS' hck hRX ⟨(oX 7 (by decide) (by decide) (by decide)).trans e7, (oX 10 (by decide) (by decide) (by decide)).trans e10, by rw [gX]; exact hC.2.2.1, by rw [mX]; exact hC.2.2.2⟩ x11 x12 x14 (fun j r hj => by
              rw [tX]
              by_cases z : j < P.length
              · rw [List.getElem?_append_left z] at hj
                rw [si_nj _ _ _ (by omega), a2.2.2.2.2.2 j z]
                exact htr j r hj
              · have hil : j < P.length + 1 := by
                  have := (List.getElem?_eq_some_iff.mp hj).1
                  simpa using this
                have e2 : j = P.length := by omega
                subst e2
                have : q = r := by simpa using hj
                rw [← this, si_at]) sX cb
            rw [hl1] at call
            refine ⟨_, call, fun μ26 h26 => ?_⟩
            obtain ⟨z1, z2, z3⟩ := h26
            refine back μ26 z1 (fCX.tr z2.1) (fun j j1 j2 j3 j4 j5 => ?_) (z2.2.2.1.trans gX) (z2.2.2.2.1.trans mX) (fun c c1 c2 => ?_) (fun j hj => ?_) ?_
            · rw [z2.2.1 j j1 j2, oX j j3 j4 j5]
              exact a2.2.1 j j1 j2
            · rw [z2.2.2.2.2.1 c c1 (by omega)]
              exact cX c c1
            · rw [z2.2.2.2.2.2 j (by omega), tX, si_nj _ _ _ (by omega)]
              exact a2.2.2.2.2.2 j hj
            · rw [hrm]
              exact z3
          · obtain ⟨bw, bt, bl, n1, n2, n3, n4⟩ := cbb_no sX x11 x12 x14 hle (by omega) cb
            have enm := odV_no (pl := pl) h hS' hck (by omega) n1 n2 n3 n4
            refine back X hRX fCX (fun j j1 j2 j3 j4 j5 => ?_) gX mX (fun c c1 _ => cX c c1) (fun j hj => ?_) ?_
            · rw [oX j j3 j4 j5]
              exact a2.2.1 j j1 j2
            · rw [tX, si_nj _ _ _ (by omega)]
              exact a2.2.2.2.2.2 j hj
            · rw [enm]
              exact sX
        refine ⟨fun z => ?_, fun z => ?_⟩
        · rw [if_pos z] at s1
          refine both _ ?_
          rw [pk_sub (by omega)]
          congr 1
          omega
        · rw [if_neg z] at s1
          refine both _ ?_
          rw [Int32.sub_zero]
          congr 1
