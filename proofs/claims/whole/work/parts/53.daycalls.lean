/-! day, would, plan, leave -/
theorem S_toldDay {D : Nat} (hD : 1 ≤ D) (μ : m2M) {a b c e : Int32} (h42 : μ.1 kM 42 = a) (h43 : μ.1 kM 43 = b) (h44 : μ.1 kM 44 = c) (h45 : μ.1 kM 45 = e) : m2_MT D yX12_toldDay cX12_toldDay 1 (some .int) [.ref kM] μ (fun r μ' => r = some (.int a) ∧ rM [b.toInt64, c.toInt64, e.toInt64] μ' ∧ twM μ μ') := by
  obtain ⟨D, rfl⟩ : ∃ E, D = E + 1 := ⟨D - 1, by omega⟩
  have cl : ∀ μ', twM μ μ' → ∀ j, j ≠ 21 → μ'.1 kM j = μ.1 kM j := by
    rintro μ' ⟨g, z, rfl⟩ j hj
    rw [si_nj _ _ _ hj]
    rfl
  refine m2_MT.intro (ls := [.ref kM]) (by decide +kernel) rfl (ble rfl) (fun κ hk => ?_)
  refine B_X12_toldDay_0 hk ?_
  rw [h43]
  refine ⟨_, S_tellM _ _ rM.i (by decide), fun μ2 r2 => ?_⟩
  have xt2 := twM.i.tr r2.2
  rw [cl μ2 xt2 44 (by decide), h44]
  refine ⟨_, S_tellM _ _ r2.1 (ble rfl), fun μ7 r7 => ?_⟩
  have xt7 := xt2.tr r7.2
  rw [cl μ7 xt7 45 (by decide), h45]
  refine ⟨_, S_tellM _ _ r7.1 (ble rfl), fun μ12 r12 => ?_⟩
  have xt12 := xt7.tr r12.2
  rw [cl μ12 xt12 42 (by decide), h42]
  exact ⟨rfl, r12.1, xt12⟩
theorem bts_day {n p pl : Nat} {ν μ : m2M} (hR : RLn ν μ n p) : bts (cnF n p pl (-1) ν) p = bts (fun q => !decide (gN (rnS n p pl (-1) ν p).1 q = -1)) p := by
  refine bts_congr (fun q hq => ?_)
  have hh := rnS_busy (pl := pl) hR hq
  cases e1 : cnF n p pl (-1) ν q with
  | true =>
    have := hh.mp e1
    simp [this]
  | false =>
    by_cases z : gN (rnS n p pl (-1) ν p).1 q = -1
    · simp [z]
    · have := hh.mpr z
      rw [e1] at this
      cases this
theorem T_day {D : Nat} (hD : 409 ≤ D) (x : Int32) (μ : m2M) (h : REL μ) : stp D yX11_day cX11_day 2 (some .int) yX12_day cX12_day 2 (some .int) [.int x] μ REL := by
  obtain ⟨D, rfl⟩ : ∃ E, D = E + 1 := ⟨D - 1, by omega⟩
  obtain ⟨n, p, hR⟩ := id h
  have hR : RLn μ μ n p := hR
  by_cases ok : in_ 4 x
  · obtain ⟨pl, hpl, rfl⟩ := ok
    refine T_of (some (.int (nI (cnb (dnB (rnS n p pl (-1) μ p).1) p)))) (tlM (rnS n p pl (-1) μ p).1 (dayR (rnS n p pl (-1) μ p).1 p (rnS n p pl (-1) μ p).2)) ?_ (fun ν hv => ?_)
    · refine m2_MT.intro (ls := [.ref kC, .int (nI pl)]) (by decide +kernel) rfl (ble rfl) (fun κ hk => ?_)
      refine B_X11_day_0 hk (Nat.zero_le _) ⟨fun _ => ⟨_, S_run (by omega) (-1) μ μ hR hpl, fun μ6 r6 => ⟨_, S_tellDay (by omega) _ μ6 r6.1 r6.2.2, fun y10 μ11 r11 => ?_⟩⟩, fun z => absurd (isPlan_iff.mpr ⟨pl, hpl, rfl⟩) z⟩
      obtain ⟨xe, xr, xt⟩ := r11
      cases xe
      exact ⟨rfl, REL2.tell r6.1.r xr xt (ble rfl), xt.fr rfl rfl r6.2.1.c⟩
    · have hv' := hv.thr
      refine m2_MT.intro (ls := [.ref kM, .int (nI pl)]) (by decide +kernel) rfl (ble rfl) (fun κ hk => ?_)
      refine B_X12_day_0 hk (Nat.zero_le _) ⟨fun _ => ⟨_, S_goAll (by omega) (-1) μ _ μ hR hv' hpl, fun μ6 r6 => ?_⟩, fun z => absurd ((in_k (k := 3) (by decide)).mpr ⟨pl, hpl, rfl⟩) z⟩
      obtain ⟨xv, xf, x42, x43, x44, x45⟩ := r6
      rw [bts_day hR] at x45
      refine ⟨_, S_toldDay (by omega) μ6 x42 x43 x44 x45, fun y10 μ11 r11 => ?_⟩
      obtain ⟨xe, xr, xt⟩ := r11
      cases xe
      exact ⟨rfl, xv.tell xr xt (ble rfl), xt.fr rfl rfl (fr.tr (fr_si rfl fr.rf) xf.m)⟩
  · refine T_of (some (.int (-1))) μ ?_ (fun ν hv => ?_)
    · refine m2_MT.intro (ls := [.ref kC, .int x]) (by decide +kernel) rfl (ble rfl) (fun κ hk => ?_)
      exact B_X11_day_0 hk (Nat.zero_le _) ⟨fun z => absurd (isPlan_iff.mp z) ok, fun _ => ⟨rfl, h, fr.rf⟩⟩
    · refine m2_MT.intro (ls := [.ref kM, .int x]) (by decide +kernel) rfl (ble rfl) (fun κ hk => ?_)
      exact B_X12_day_0 hk (Nat.zero_le _) ⟨fun z => absurd ((in_k (k := 3) (by decide)).mp z) ok, fun _ => ⟨rfl, hv.thr, fr_si rfl fr.rf⟩⟩
/-! a trial on the class's side -/
def kp3 (ν : m2M) (n p : Nat) (μ : m2M) : Prop := kpt μ 3 n p (ν.1 kM_left) (ν.1 kM_where) (ν.1 kM_wasThere) (ν.1 kM_isDone) (ν.1 kM 16)
theorem kp3.of {ν μ μ' : m2M} {n p : Nat} (h : kp3 ν n p μ) (e : ∀ c, 122 ≤ c → c ≤ 126 → μ'.1 c = μ.1 c) : kp3 ν n p μ' := by
  have e0 : μ'.1 (kK 3) = μ.1 (kK 3) := e 122 (by decide) (by decide)
  have ee1 : μ'.1 (kK 3 + 1) = μ.1 (kK 3 + 1) := e 123 (by decide) (by decide)
  have ee2 : μ'.1 (kK 3 + 2) = μ.1 (kK 3 + 2) := e 124 (by decide) (by decide)
  have ee3 : μ'.1 (kK 3 + 3) = μ.1 (kK 3 + 3) := e 125 (by decide) (by decide)
  have ee4 : μ'.1 (kK 3 + 4) = μ.1 (kK 3 + 4) := e 126 (by decide) (by decide)
  unfold kp3 kpt at *
  rw [e0, ee1, ee2, ee3, ee4]
  exact h
theorem RLn.b01s {ν μ : m2M} {n p : Nat} (hR : RLn ν μ n p) : ∀ q, q < p → b01 (μ.1 kP_reached q) ∧ b01 (μ.1 kP_done q) := by
  intro q hq
  obtain ⟨⟨a1, a2, a3, a4, a5, a6, a7, a8⟩, b1, b2, b3, b4, b5, b6, b7, b8, b9⟩ := hR.2.1.2.2.2 q hq
  rw [a7, a8]
  exact ⟨b7, b8⟩
theorem fr_kk3 {μ μ' : m2M} {i : Nat} (hi : 3 ≤ i) (f14 : fr (kkS i) μ μ') : agC μ μ' := by
  refine ⟨fun c j a b => ?_, fun j => by rw [(f14 kC_row (kkS_out (by decide))).2]⟩
  refine congrFun (f14 c ?_).1 j
  unfold kkS
  cases xe1 : Nat.ble (kK i) c with
  | false => rfl
  | true =>
    exfalso
    have hge : 122 ≤ c := by
      have := Nat.le_of_ble_eq_true xe1
      have : kK i = 107 + 5 * i := rfl
      omega
    have : scr c j = true := by
      unfold scr
      rw [ble_t hge]
      simp
    rw [this] at b
    cases b
theorem kpt_rel {ν μ μ' : m2M} {n p i : Nat} (hR : RLn ν μ n p) (h : kpt μ' i n p (μ.1 kD_left) (μ.1 kP_where) (μ.1 kP_reached) (μ.1 kP_done) (μ.1 kD 7)) : kpt μ' i n p (ν.1 kM_left) (ν.1 kM_where) (ν.1 kM_wasThere) (ν.1 kM_isDone) (ν.1 kM 16) := by
  obtain ⟨xk1, xk2, xk3, xk4, xk5⟩ := h
  refine ⟨xk1, xk2, xk3.trans hR.2.2.2.2.2.2.1.1, fun d hd => (xk4 d hd).trans (hR.1.2.2.2 d hd).1.2.2.2.2.1, fun q hq => ?_⟩
  obtain ⟨⟨a1, a2, a3, a4, a5, a6, a7, a8⟩, _⟩ := hR.2.1.2.2.2 q hq
  obtain ⟨xq1, xq2, xq3⟩ := xk5 q hq
  exact ⟨xq1.trans a1, xq2.trans a7, xq3.trans a8⟩
theorem S_take3 {D n p : Nat} (hD : 1 ≤ D) (ν μ : m2M) (hR : RLn ν μ n p) : m2_MT D yX3_take cX3_take 4 none [.ref (kK 3), .ref kD, .ref kP] μ (fun _ μ' => RLn ν μ' n p ∧ kp3 ν n p μ' ∧ fr (kkS 3) μ μ') := by
  refine (S_take (i := 3) hD (by decide) hR.n20 hR.p8 μ hR.1.1 hR.2.1.1 hR.b01s).mono ?_
  rintro r μ' ⟨xk, _, xf⟩
  exact ⟨hR.c (fr_kk3 (Nat.le_refl 3) xf), kpt_rel hR xk, xf⟩
theorem S_back3 {D n p : Nat} (hD : 1 ≤ D) (ν ν' μ : m2M) (hw : ∃ μ0, RLn ν μ0 n p) (h : RLn ν' μ n p) (hm : mvd n p ν ν') (hk : kp3 ν n p μ) : m2_MT D yX3_giveBack cX3_giveBack 4 none [.ref (kK 3), .ref kD, .ref kP] μ (fun _ μ' => RLn ν μ' n p ∧ kp3 ν n p μ' ∧ frC μ μ' ∧ μ' = gbC μ n p (ν.1 kM_left) (ν.1 kM_where) (ν.1 kM_wasThere) (ν.1 kM_isDone) (ν.1 kM 16)) := by
  obtain ⟨μ0, hR0⟩ := hw
  refine (S_giveBack (i := 3) hD (by decide) h.n20 h.p8 μ hk (fun q hq => ?_)).mono ?_
  · obtain ⟨_, b1, b2, b3, b4, b5, b6, b7, b8, b9⟩ := hR0.2.1.2.2.2 q hq
    exact ⟨b7, b8⟩
  · rintro r μ' rfl
    refine ⟨RLn_back (Or.inr trivial) ⟨μ0, hR0⟩ h hm (fun _ _ => rfl) (fun _ _ => ⟨rfl, rfl, rfl⟩) rfl, hk.of (fun c hc1 hc2 => ?_), frC_gbC fr.rf, rfl⟩
    have e1 : kD = 8 := rfl
    have e2 : kD_left = 14 := rfl
    have e3 : kP_where = 16 := rfl
    have e4 : kP_reached = 22 := rfl
    have e5 : kP_done = 23 := rfl
    unfold gbC
    rw [m2_sr_ne _ _ (by omega), m2_sr_ne _ _ (by omega), m2_sr_ne _ _ (by omega), m2_sr_ne _ _ (by omega), si_nc _ _ _ (by omega)]
theorem isG_lt {c : Nat} (h : isG c = true) : c ≤ 48 := by
  unfold isG at h
  simp only [Bool.or_eq_true, Bool.and_eq_true, Nat.ble_eq, beq_iff_eq] at h
  have e1 : kW_onWay = 47 := rfl
  have e2 : kW_strangersOnWay = 48 := rfl
  have e3 : kD_left = 14 := rfl
  have e4 : kP_where = 16 := rfl
  have e5 : kP_reached = 22 := rfl
  have e6 : kP_done = 23 := rfl
  omega
theorem frH.k {μ μ' : m2M} (h : frH μ μ') {c : Nat} (hc : 49 ≤ c) : μ'.1 c = μ.1 c := by
  refine (h.1 c ?_).1
  have e1 : kW = 46 := rfl
  cases xe : isG c with
  | false =>
    have : c ≠ kW := by omega
    simp [this]
  | true => have := isG_lt xe; omega
theorem twC.gb {μ μ' : m2M} {n p : Nat} {L W R O : Nat → Int32} {hr : Int32} (h : twC μ μ') : twC (gbC μ n p L W R O hr) (gbC μ' n p L W R O hr) := by
  obtain ⟨g, z, rfl⟩ := h
  refine ⟨g, z, m2_ext (fun c => ?_) (fun c => rfl)⟩
  by_cases hc : c = kC
  · subst hc; rfl
  · rw [si_nc _ _ _ hc]
    have xe : ∀ c', c' ≠ kC → (m2_si (m2_sl μ kC_row g) kC 3 z).1 c' = μ.1 c' := fun c' h' => si_nc _ _ _ h'
    show (gbC (m2_si (m2_sl μ kC_row g) kC 3 z) n p L W R O hr).1 c = (gbC μ n p L W R O hr).1 c
    unfold gbC
    rw [xe kD_left (by decide), xe kP_where (by decide), xe kP_reached (by decide), xe kP_done (by decide)]
    by_cases c1 : c = kP_done
    · subst c1; rfl
    · rw [m2_sr_ne _ _ c1, m2_sr_ne _ _ c1]
      by_cases c2 : c = kP_reached
      · subst c2; rfl
      · rw [m2_sr_ne _ _ c2, m2_sr_ne _ _ c2]
        by_cases c3 : c = kP_where
        · subst c3; rfl
        · rw [m2_sr_ne _ _ c3, m2_sr_ne _ _ c3]
          by_cases c4 : c = kD_left
          · subst c4; rfl
          · rw [m2_sr_ne _ _ c4, m2_sr_ne _ _ c4]
            by_cases c5 : c = kD
            · subst c5; rfl
            · rw [si_nc _ _ _ c5, si_nc _ _ _ c5]
              exact xe c hc
theorem twC.cc {μ μ' : m2M} (h : twC μ μ') {c : Nat} (hc : c ≠ kC) : μ'.1 c = μ.1 c := by
  obtain ⟨g, z, rfl⟩ := h
  exact si_nc _ _ _ hc
theorem rC.gb {μ : m2M} {l : List Int64} {n p : Nat} {L W R O : Nat → Int32} {hr : Int32} (h : rC l μ) : rC l (gbC μ n p L W R O hr) := h
/-- a trial on the reference's side -/
def pt3 (ν μ : m2M) : Prop := ∀ j, 135 ≤ j → j < 180 → μ.1 kM_put j = ptG ν 3 j
theorem S_putBy3 {D : Nat} (hD : 1 ≤ D) (ν μ : m2M) (hv : vM ν μ) : m2_MT D yX12_putBy cX12_putBy 1 none [.ref kM] μ (fun _ μ' => vM ν μ' ∧ frM μ μ' ∧ pt3 ν μ' ∧ ∀ c, c ≠ kM_put → μ'.1 c = μ.1 c) := by
  obtain ⟨D, rfl⟩ : ∃ E, D = E + 1 := ⟨D - 1, by omega⟩
  refine m2_MT.intro (ls := [.ref kM]) (by decide +kernel) rfl (ble rfl) (fun κ hk => ?_)
  refine B_X12_putBy_0 hk ⟨_, S_putIn (i := 3) (by decide) μ, fun μ2 xe2 => ?_⟩
  subst xe2
  refine ⟨⟨fun c j a b => ?_, hv.2⟩, fr_sr rfl fr.rf, fun j j1 j2 => ?_, fun c hc => m2_sr_ne _ _ hc⟩
  · by_cases e : c = kM_put
    · subst e
      rw [m2_sr_same]
      have hj : j < 135 := by
        apply Classical.byContradiction
        intro z
        have : scr kM_put j = true := by
          unfold scr
          rw [ble_t (show 135 ≤ j by omega)]
          rfl
        rw [this] at b
        cases b
      exact (if_neg (by omega)).trans (hv.1 kM_put j rfl b)
    · rw [m2_sr_ne _ _ e]
      exact hv.1 c j a b
  · rw [m2_sr_same, ← vM_ptG hv]
    exact if_pos ⟨by omega, by omega⟩
theorem S_bring3 {D n p : Nat} (hD : 1 ≤ D) (ν ν' μ μ0 : m2M) (hR : RLn ν μ0 n p) (hm : mvd n p ν ν') (hv : vM ν' μ) (hp : pt3 ν μ) : m2_MT D yX12_bringBack cX12_bringBack 1 none [.ref kM] μ (fun _ μ' => vM ν μ' ∧ frM μ μ' ∧ (∀ j, j ≠ 16 → μ'.1 kM j = μ.1 kM j) ∧ ∀ c, c ≠ kM → c ≠ kM_left → c ≠ kM_where → c ≠ kM_wasThere → c ≠ kM_isDone → μ'.1 c = μ.1 c) := by
  refine (S_bringBack hD ν μ μ0 hR (hm.tr (mvd.of hv)) hp).mono ?_
  rintro r μ' ⟨xv, rfl⟩
  refine ⟨xv, frM_tkM fr.rf, fun j hj => ?_, fun c h0 h1 h2 h3 h4 => ?_⟩
  · unfold tkM
    rw [si_nj _ _ _ hj]
    rfl
  · unfold tkM
    rw [si_nc _ _ _ h0, m2_sr_ne _ _ h4, m2_sr_ne _ _ h3, m2_sr_ne _ _ h2, m2_sr_ne _ _ h1]
theorem frA.p {ν μ μ' : m2M} (h : frA μ μ') (hp : pt3 ν μ) : pt3 ν μ' := fun j j1 j2 => by rw [(h.1 kM_put rfl).1]; exact hp j j1 j2
theorem T_would {D : Nat} (hD : 409 ≤ D) (x : Int32) (μ : m2M) (h : REL μ) : stp D yX11_would cX11_would 3 (some .int) yX12_would cX12_would 2 (some .int) [.int x] μ REL := by
  obtain ⟨D, rfl⟩ : ∃ E, D = E + 1 := ⟨D - 1, by omega⟩
  obtain ⟨n, p, hR⟩ := id h
  have hR : RLn μ μ n p := hR
  by_cases ok : in_ 4 x
  · obtain ⟨pl, hpl, rfl⟩ := ok
    have hmv := rnS_mv (pl := pl) (lo := -1) hR p (Nat.le_refl p)
    refine T_of (some (.int (nI (cnb (dnB (rnS n p pl (-1) μ p).1) p)))) (tlM μ (dayR (rnS n p pl (-1) μ p).1 p (rnS n p pl (-1) μ p).2)) ?_ (fun ν hv => ?_)
    · refine m2_MT.intro (ls := [.ref kC, .int (nI pl), .null]) (by decide +kernel) rfl (ble rfl) (fun κ hk => ?_)
      refine B_X11_would_0 hk (Nat.zero_le _) ⟨fun _ => ⟨3, rfl, by decide, _, S_take3 (by omega) μ μ hR, fun μ8 r8 => ?_⟩, fun z => absurd (isPlan_iff.mpr ⟨pl, hpl, rfl⟩) z⟩
      obtain ⟨xR8, xk8, xf8⟩ := r8
      refine ⟨_, S_run (by omega) (-1) μ μ8 xR8 hpl, fun μ13 r13 => ?_⟩
      obtain ⟨xR13, xf13, xW13⟩ := r13
      have xk13 : kp3 μ n p μ13 := xk8.of (fun c hc _ => xf13.k (by omega))
      refine ⟨_, S_tellDay (by omega) _ μ13 xR13 xW13, fun y17 μ18 r18 => ?_⟩
      obtain ⟨xe, xr, xt⟩ := r18
      cases xe
      have hR18 : kp3 μ n p μ18 := xk13.of (fun c hc _ => xt.cc (by have : kC = 0 := rfl; omega))
      refine ⟨3, rfl, by decide, _, S_giveBack (i := 3) (by omega) (by decide) hR.n20 hR.p8 μ18 hR18 (fun q hq => ?_), fun μ25 xe25 => ?_⟩
      · obtain ⟨_, b1, b2, b3, b4, b5, b6, b7, b8, b9⟩ := hR.2.1.2.2.2 q hq
        exact ⟨b7, b8⟩
      · subst xe25
        have xRb : RLn μ (gbC μ13 n p (μ.1 kM_left) (μ.1 kM_where) (μ.1 kM_wasThere) (μ.1 kM_isDone) (μ.1 kM 16)) n p := RLn_back (Or.inr trivial) ⟨μ, hR⟩ xR13 hmv (fun _ _ => rfl) (fun _ _ => ⟨rfl, rfl, rfl⟩) rfl
        exact ⟨rfl, REL2.tell xRb.r xr.gb xt.gb (ble rfl), frC_gbC (xt.fr rfl rfl ((fr_kk xf8).tr xf13.c))⟩
    · have hv' := hv.thr
      refine m2_MT.intro (ls := [.ref kM, .int (nI pl)]) (by decide +kernel) rfl (ble rfl) (fun κ hk => ?_)
      refine B_X12_would_0 hk (Nat.zero_le _) ⟨fun _ => ⟨_, S_putBy3 (by omega) μ _ hv', fun μ6 r6 => ?_⟩, fun z => absurd ((in_k (k := 3) (by decide)).mpr ⟨pl, hpl, rfl⟩) z⟩
      obtain ⟨xv6, xf6, xp6, _⟩ := r6
      refine ⟨_, S_goAll (by omega) (-1) μ _ μ hR xv6 hpl, fun μ11 r11 => ?_⟩
      obtain ⟨xv, xf, x42, x43, x44, x45⟩ := r11
      rw [bts_day hR] at x45
      refine ⟨_, S_bring3 (by omega) μ _ μ11 μ hR hmv xv (xf.p xp6), fun μ16 r16 => ?_⟩
      obtain ⟨xv16, xf16, xj16, _⟩ := r16
      refine ⟨_, S_toldDay (by omega) μ16 ((xj16 42 (by decide)).trans x42) ((xj16 43 (by decide)).trans x43) ((xj16 44 (by decide)).trans x44) ((xj16 45 (by decide)).trans x45), fun y20 μ21 r21 => ?_⟩
      obtain ⟨xe, xr, xt⟩ := r21
      cases xe
      exact ⟨rfl, xv16.tell xr xt (ble rfl), xt.fr rfl rfl ((((fr.tr (fr_si rfl fr.rf) xf6).tr xf.m)).tr xf16)⟩
  · refine T_of (some (.int (-1))) μ ?_ (fun ν hv => ?_)
    · refine m2_MT.intro (ls := [.ref kC, .int x, .null]) (by decide +kernel) rfl (ble rfl) (fun κ hk => ?_)
      exact B_X11_would_0 hk (Nat.zero_le _) ⟨fun z => absurd (isPlan_iff.mp z) ok, fun _ => ⟨rfl, h, fr.rf⟩⟩
    · refine m2_MT.intro (ls := [.ref kM, .int x]) (by decide +kernel) rfl (ble rfl) (fun κ hk => ?_)
      exact B_X12_would_0 hk (Nat.zero_le _) ⟨fun z => absurd ((in_k (k := 3) (by decide)).mp z) ok, fun _ => ⟨rfl, hv.thr, fr_si rfl fr.rf⟩⟩
