/-! day, would, plan, leave -/
theorem S_toldDay {D : Nat} (hD : 1 ≤ D) (μ : m2M) {a b c e : Int32} (h42 : μ.1 kM 42 = a) (h43 : μ.1 kM 43 = b) (h44 : μ.1 kM 44 = c) (h45 : μ.1 kM 45 = e) : m2_MT D yX12_toldDay cX12_toldDay 1 (some .int) [.ref kM] μ (fun r μ' => r = some (.int a) ∧ rM [b.toInt64, c.toInt64, e.toInt64] μ' ∧ twM μ μ') := by
  obtain ⟨D, rfl⟩ : ∃ E, D = E + 1 := ⟨D - 1, by omega⟩
  have cl : ∀ μ', twM μ μ' → ∀ j, j ≠ 21 → μ'.1 kM j = μ.1 kM j := by
    rintro μ' ⟨g, z, rfl⟩ j hj
    rw [si_nj _ _ _ hj]
    rfl
  refine m2_MT.intro (ls := [.ref kM]) (by decide +kernel) rfl (ble rfl) (fun κ hk => ?_)
  refine B_X12_toldDay_0 hk ?_
  rw [h43]
  refine ⟨_, S_tellM _ _ rM.i (by decide), fun μ2 r2 => ?_⟩
  have xt2 := twM.i.tr r2.2
  rw [cl μ2 xt2 44 (by decide), h44]
  refine ⟨_, S_tellM _ _ r2.1 (ble rfl), fun μ7 r7 => ?_⟩
  have xt7 := xt2.tr r7.2
  rw [cl μ7 xt7 45 (by decide), h45]
  refine ⟨_, S_tellM _ _ r7.1 (ble rfl), fun μ12 r12 => ?_⟩
  have xt12 := xt7.tr r12.2
  rw [cl μ12 xt12 42 (by decide), h42]
  exact ⟨rfl, r12.1, xt12⟩
theorem bts_day {n p pl : Nat} {ν μ : m2M} (hR : RLn ν μ n p) : bts (cnF n p pl (-1) ν) p = bts (fun q => !decide (gN (rnS n p pl (-1) ν p).1 q = -1)) p := by
  refine bts_congr (fun q hq => ?_)
  have hh := rnS_busy (pl := pl) hR hq
  cases e1 : cnF n p pl (-1) ν q with
  | true =>
    have := hh.mp e1
    simp [this]
  | false =>
    by_cases z : gN (rnS n p pl (-1) ν p).1 q = -1
    · simp [z]
    · have := hh.mpr z
      rw [e1] at this
      cases this
theorem T_day {D : Nat} (hD : 409 ≤ D) (x : Int32) (μ : m2M) (h : REL μ) : stp D yX11_day cX11_day 2 (some .int) yX12_day cX12_day 2 (some .int) [.int x] μ REL := by
  obtain ⟨D, rfl⟩ : ∃ E, D = E + 1 := ⟨D - 1, by omega⟩
  obtain ⟨n, p, hR⟩ := id h
  have hR : RLn μ μ n p := hR
  by_cases ok : in_ 4 x
  · obtain ⟨pl, hpl, rfl⟩ := ok
    refine T_of (some (.int (nI (cnb (dnB (rnS n p pl (-1) μ p).1) p)))) (tlM (rnS n p pl (-1) μ p).1 (dayR (rnS n p pl (-1) μ p).1 p (rnS n p pl (-1) μ p).2)) ?_ (fun ν hv => ?_)
    · refine m2_MT.intro (ls := [.ref kC, .int (nI pl)]) (by decide +kernel) rfl (ble rfl) (fun κ hk => ?_)
      refine B_X11_day_0 hk (Nat.zero_le _) ⟨fun _ => ⟨_, S_run (by omega) (-1) μ μ hR hpl, fun μ6 r6 => ⟨_, S_tellDay (by omega) _ μ6 r6.1 r6.2.2, fun y10 μ11 r11 => ?_⟩⟩, fun z => absurd (isPlan_iff.mpr ⟨pl, hpl, rfl⟩) z⟩
      obtain ⟨xe, xr, xt⟩ := r11
      cases xe
      exact ⟨rfl, REL2.tell r6.1.r xr xt (ble rfl), xt.fr rfl rfl r6.2.1.c⟩
    · have hv' := hv.thr
      refine m2_MT.intro (ls := [.ref kM, .int (nI pl)]) (by decide +kernel) rfl (ble rfl) (fun κ hk => ?_)
      refine B_X12_day_0 hk (Nat.zero_le _) ⟨fun _ => ⟨_, S_goAll (by omega) (-1) μ _ μ hR hv' hpl, fun μ6 r6 => ?_⟩, fun z => absurd ((in_k (k := 3) (by decide)).mpr ⟨pl, hpl, rfl⟩) z⟩
      obtain ⟨xv, xf, x42, x43, x44, x45⟩ := r6
      rw [bts_day hR] at x45
      refine ⟨_, S_toldDay (by omega) μ6 x42 x43 x44 x45, fun y10 μ11 r11 => ?_⟩
      obtain ⟨xe, xr, xt⟩ := r11
      cases xe
      exact ⟨rfl, xv.tell xr xt (ble rfl), xt.fr rfl rfl (fr.tr (fr_si rfl fr.rf) xf.m)⟩
  · refine T_of (some (.int (-1))) μ ?_ (fun ν hv => ?_)
    · refine m2_MT.intro (ls := [.ref kC, .int x]) (by decide +kernel) rfl (ble rfl) (fun κ hk => ?_)
      exact B_X11_day_0 hk (Nat.zero_le _) ⟨fun z => absurd (isPlan_iff.mp z) ok, fun _ => ⟨rfl, h, fr.rf⟩⟩
    · refine m2_MT.intro (ls := [.ref kM, .int x]) (by decide +kernel) rfl (ble rfl) (fun κ hk => ?_)
      exact B_X12_day_0 hk (Nat.zero_le _) ⟨fun z => absurd ((in_k (k := 3) (by decide)).mp z) ok, fun _ => ⟨rfl, hv.thr, fr_si rfl fr.rf⟩⟩
/-! a trial on the class's side -/
def kp3 (ν : m2M) (n p : Nat) (μ : m2M) : Prop := kpt μ 3 n p (ν.1 kM_left) (ν.1 kM_where) (ν.1 kM_wasThere) (ν.1 kM_isDone) (ν.1 kM 16)
theorem kp3.of {ν μ μ' : m2M} {n p : Nat} (h : kp3 ν n p μ) (e : ∀ c, 122 ≤ c → c ≤ 126 → μ'.1 c = μ.1 c) : kp3 ν n p μ' := by
  have e0 : μ'.1 (kK 3) = μ.1 (kK 3) := e 122 (by decide) (by decide)
  have ee1 : μ'.1 (kK 3 + 1) = μ.1 (kK 3 + 1) := e 123 (by decide) (by decide)
  have ee2 : μ'.1 (kK 3 + 2) = μ.1 (kK 3 + 2) := e 124 (by decide) (by decide)
  have ee3 : μ'.1 (kK 3 + 3) = μ.1 (kK 3 + 3) := e 125 (by decide) (by decide)
  have ee4 : μ'.1 (kK 3 + 4) = μ.1 (kK 3 + 4) := e 126 (by decide) (by decide)
  unfold kp3 kpt at *
  rw [e0, ee1, ee2, ee3, ee4]
  exact h
theorem RLn.b01s {ν μ : m2M} {n p : Nat} (hR : RLn ν μ n p) : ∀ q, q < p → b01 (μ.1 kP_reached q) ∧ b01 (μ.1 kP_done q) := by
  intro q hq
  obtain ⟨⟨a1, a2, a3, a4, a5, a6, a7, a8⟩, b1, b2, b3, b4, b5, b6, b7, b8, b9⟩ := hR.2.1.2.2.2 q hq
  rw [a7, a8]
  exact ⟨b7, b8⟩
theorem fr_kk3 {μ μ' : m2M} {i : Nat} (hi : 3 ≤ i) (f14 : fr (kkS i) μ μ') : agC μ μ' := by
  refine ⟨fun c j a b => ?_, fun j => by rw [(f14 kC_row (kkS_out (by decide))).2]⟩
  refine congrFun (f14 c ?_).1 j
  unfold kkS
  cases xe1 : Nat.ble (kK i) c with
  | false => rfl
  | true =>
    exfalso
    have hge : 122 ≤ c := by
      have := Nat.le_of_ble_eq_true xe1
      have : kK i = 107 + 5 * i := rfl
      omega
    have : scr c j = true := by
      unfold scr
      rw [ble_t hge]
      simp
    rw [this] at b
    cases b
theorem kpt_rel {ν μ μ' : m2M} {n p i : Nat} (hR : RLn ν μ n p) (h : kpt μ' i n p (μ.1 kD_left) (μ.1 kP_where) (μ.1 kP_reached) (μ.1 kP_done) (μ.1 kD 7)) : kpt μ' i n p (ν.1 kM_left) (ν.1 kM_where) (ν.1 kM_wasThere) (ν.1 kM_isDone) (ν.1 kM 16) := by
  obtain ⟨xk1, xk2, xk3, xk4, xk5⟩ := h
  refine ⟨xk1, xk2, xk3.trans hR.2.2.2.2.2.2.1.1, fun d hd => (xk4 d hd).trans (hR.1.2.2.2 d hd).1.2.2.2.2.1, fun q hq => ?_⟩
  obtain ⟨⟨a1, a2, a3, a4, a5, a6, a7, a8⟩, _⟩ := hR.2.1.2.2.2 q hq
  obtain ⟨xq1, xq2, xq3⟩ := xk5 q hq
  exact ⟨xq1.trans a1, xq2.trans a7, xq3.trans a8⟩
theorem S_take3 {D n p : Nat} (hD : 1 ≤ D) (ν μ : m2M) (hR : RLn ν μ n p) : m2_MT D yX3_take cX3_take 4 none [.ref (kK 3), .ref kD, .ref kP] μ (fun _ μ' => RLn ν μ' n p ∧ kp3 ν n p μ' ∧ fr (kkS 3) μ μ') := by
  refine (S_take (i := 3) hD (by decide) hR.n20 hR.p8 μ hR.1.1 hR.2.1.1 hR.b01s).mono ?_
  rintro r μ' ⟨xk, _, xf⟩
  exact ⟨hR.c (fr_kk3 (Nat.le_refl 3) xf), kpt_rel hR xk, xf⟩
theorem S_back3 {D n p : Nat} (hD : 1 ≤ D) (ν ν' μ : m2M) (hw : ∃ μ0, RLn ν μ0 n p) (h : RLn ν' μ n p) (hm : mvd n p ν ν') (hk : kp3 ν n p μ) : m2_MT D yX3_giveBack cX3_giveBack 4 none [.ref (kK 3), .ref kD, .ref kP] μ (fun _ μ' => RLn ν μ' n p ∧ kp3 ν n p μ' ∧ frC μ μ' ∧ μ' = gbC μ n p (ν.1 kM_left) (ν.1 kM_where) (ν.1 kM_wasThere) (ν.1 kM_isDone) (ν.1 kM 16)) := by
  obtain ⟨μ0, hR0⟩ := hw
  refine (S_giveBack (i := 3) hD (by decide) h.n20 h.p8 μ hk (fun q hq => ?_)).mono ?_
  · obtain ⟨_, b1, b2, b3, b4, b5, b6, b7, b8, b9⟩ := hR0.2.1.2.2.2 q hq
    exact ⟨b7, b8⟩
  · rintro r μ' rfl
    refine ⟨RLn_back (Or.inr trivial) ⟨μ0, hR0⟩ h hm (fun _ _ => rfl) (fun _ _ => ⟨rfl, rfl, rfl⟩) rfl, hk.of (fun c hc1 hc2 => ?_), frC_gbC fr.rf, rfl⟩
    have e1 : kD = 8 := rfl
    have e2 : kD_left = 14 := rfl
    have e3 : kP_where = 16 := rfl
    have e4 : kP_reached = 22 := rfl
    have e5 : kP_done = 23 := rfl
    unfold gbC
    rw [m2_sr_ne _ _ (by omega), m2_sr_ne _ _ (by omega), m2_sr_ne _ _ (by omega), m2_sr_ne _ _ (by omega), si_nc _ _ _ (by omega)]
theorem isG_lt {c : Nat} (h : isG c = true) : c ≤ 48 := by
  unfold isG at h
  simp only [Bool.or_eq_true, Bool.and_eq_true, Nat.ble_eq, beq_iff_eq] at h
  have e1 : kW_onWay = 47 := rfl
  have e2 : kW_strangersOnWay = 48 := rfl
  have e3 : kD_left = 14 := rfl
  have e4 : kP_where = 16 := rfl
  have e5 : kP_reached = 22 := rfl
  have e6 : kP_done = 23 := rfl
  omega
theorem frH.k {μ μ' : m2M} (h : frH μ μ') {c : Nat} (hc : 49 ≤ c) : μ'.1 c = μ.1 c := by
  refine (h.1 c ?_).1
  have e1 : kW = 46 := rfl
  cases xe : isG c with
  | false =>
    have : c ≠ kW := by omega
    simp [this, xe]
  | true => have := isG_lt xe; omega
theorem twC.gb {μ μ' : m2M} {n p : Nat} {L W R O : Nat → Int32} {hr : Int32} (h : twC μ μ') : twC (gbC μ n p L W R O hr) (gbC μ' n p L W R O hr) := by
  obtain ⟨g, z, rfl⟩ := h
  refine ⟨g, z, m2_ext (fun c => ?_) (fun c => rfl)⟩
  by_cases hc : c = kC
  · subst hc; rfl
  · rw [si_nc _ _ _ hc]
    have xe : ∀ c', c' ≠ kC → (m2_si (m2_sl μ kC_row g) kC 3 z).1 c' = μ.1 c' := fun c' h' => si_nc _ _ _ h'
    show (gbC (m2_si (m2_sl μ kC_row g) kC 3 z) n p L W R O hr).1 c = (gbC μ n p L W R O hr).1 c
    unfold gbC
    rw [xe kD_left (by decide), xe kP_where (by decide), xe kP_reached (by decide), xe kP_done (by decide)]
    by_cases c1 : c = kP_done
    · subst c1; rfl
    · rw [m2_sr_ne _ _ c1, m2_sr_ne _ _ c1]
      by_cases c2 : c = kP_reached
      · subst c2; rfl
      · rw [m2_sr_ne _ _ c2, m2_sr_ne _ _ c2]
        by_cases c3 : c = kP_where
        · subst c3; rfl
        · rw [m2_sr_ne _ _ c3, m2_sr_ne _ _ c3]
          by_cases c4 : c = kD_left
          · subst c4; rfl
          · rw [m2_sr_ne _ _ c4, m2_sr_ne _ _ c4]
            by_cases c5 : c = kD
            · subst c5; rfl
            · rw [si_nc _ _ _ c5, si_nc _ _ _ c5]
              exact xe c hc
theorem twC.cc {μ μ' : m2M} (h : twC μ μ') {c : Nat} (hc : c ≠ kC) : μ'.1 c = μ.1 c := by
  obtain ⟨g, z, rfl⟩ := h
  exact si_nc _ _ _ hc
theorem rC.gb {μ : m2M} {l : List Int64} {n p : Nat} {L W R O : Nat → Int32} {hr : Int32} (h : rC l μ) : rC l (gbC μ n p L W R O hr) := h
/-- a trial on the reference's side -/
def pt3 (ν μ : m2M) : Prop := ∀ j, 135 ≤ j → j < 180 → μ.1 kM_put j = ptG ν 3 j
theorem S_putBy3 {D : Nat} (hD : 1 ≤ D) (ν μ : m2M) (hv : vM ν μ) : m2_MT D yX12_putBy cX12_putBy 1 none [.ref kM] μ (fun _ μ' => vM ν μ' ∧ frM μ μ' ∧ pt3 ν μ' ∧ ∀ c, c ≠ kM_put → μ'.1 c = μ.1 c) := by
  obtain ⟨D, rfl⟩ : ∃ E, D = E + 1 := ⟨D - 1, by omega⟩
  refine m2_MT.intro (ls := [.ref kM]) (by decide +kernel) rfl (ble rfl) (fun κ hk => ?_)
  refine B_X12_putBy_0 hk ⟨_, S_putIn (i := 3) (by decide) μ, fun μ2 xe2 => ?_⟩
  subst xe2
  refine ⟨⟨fun c j a b => ?_, hv.2⟩, fr_sr rfl fr.rf, fun j j1 j2 => ?_, fun c hc => m2_sr_ne _ _ hc⟩
  · by_cases e : c = kM_put
    · subst e
      rw [m2_sr_same]
      have hj : j < 135 := by
        apply Classical.byContradiction
        intro z
        have : scr kM_put j = true := by
          unfold scr
          rw [ble_t (show 135 ≤ j by omega)]
          rfl
        rw [this] at b
        cases b
      exact (if_neg (by omega)).trans (hv.1 kM_put j rfl b)
    · rw [m2_sr_ne _ _ e]
      exact hv.1 c j a b
  · rw [m2_sr_same, ← vM_ptG hv]
    exact if_pos ⟨by omega, by omega⟩
theorem S_bring3 {D n p : Nat} (hD : 1 ≤ D) (ν ν' μ μ0 : m2M) (hR : RLn ν μ0 n p) (hm : mvd n p ν ν') (hv : vM ν' μ) (hp : pt3 ν μ) : m2_MT D yX12_bringBack cX12_bringBack 1 none [.ref kM] μ (fun _ μ' => vM ν μ' ∧ frM μ μ' ∧ (∀ j, j ≠ 16 → μ'.1 kM j = μ.1 kM j) ∧ ∀ c, c ≠ kM → c ≠ kM_left → c ≠ kM_where → c ≠ kM_wasThere → c ≠ kM_isDone → μ'.1 c = μ.1 c) := by
  refine (S_bringBack hD ν μ μ0 hR (hm.tr (mvd.of hv)) hp).mono ?_
  rintro r μ' ⟨xv, rfl⟩
  refine ⟨xv, frM_tkM fr.rf, fun j hj => ?_, fun c h0 h1 h2 h3 h4 => ?_⟩
  · unfold tkM
    rw [si_nj _ _ _ hj]
    rfl
  · unfold tkM
    rw [si_nc _ _ _ h0, m2_sr_ne _ _ h4, m2_sr_ne _ _ h3, m2_sr_ne _ _ h2, m2_sr_ne _ _ h1]
theorem frA.p {ν μ μ' : m2M} (h : frA μ μ') (hp : pt3 ν μ) : pt3 ν μ' := fun j j1 j2 => by rw [(h.1 kM_put rfl).1]; exact hp j j1 j2
theorem T_would {D : Nat} (hD : 409 ≤ D) (x : Int32) (μ : m2M) (h : REL μ) : stp D yX11_would cX11_would 3 (some .int) yX12_would cX12_would 2 (some .int) [.int x] μ REL := by
  obtain ⟨D, rfl⟩ : ∃ E, D = E + 1 := ⟨D - 1, by omega⟩
  obtain ⟨n, p, hR⟩ := id h
  have hR : RLn μ μ n p := hR
  by_cases ok : in_ 4 x
  · obtain ⟨pl, hpl, rfl⟩ := ok
    have hmv := rnS_mv (pl := pl) (lo := -1) hR p (Nat.le_refl p)
    refine T_of (some (.int (nI (cnb (dnB (rnS n p pl (-1) μ p).1) p)))) (tlM μ (dayR (rnS n p pl (-1) μ p).1 p (rnS n p pl (-1) μ p).2)) ?_ (fun ν hv => ?_)
    · refine m2_MT.intro (ls := [.ref kC, .int (nI pl), .null]) (by decide +kernel) rfl (ble rfl) (fun κ hk => ?_)
      refine B_X11_would_0 hk (Nat.zero_le _) ⟨fun _ => ⟨3, rfl, by decide, _, S_take3 (by omega) μ μ hR, fun μ8 r8 => ?_⟩, fun z => absurd (isPlan_iff.mpr ⟨pl, hpl, rfl⟩) z⟩
      obtain ⟨xR8, xk8, xf8⟩ := r8
      refine ⟨_, S_run (by omega) (-1) μ μ8 xR8 hpl, fun μ13 r13 => ?_⟩
      obtain ⟨xR13, xf13, xW13⟩ := r13
      have xk13 : kp3 μ n p μ13 := xk8.of (fun c hc _ => xf13.k (by omega))
      refine ⟨_, S_tellDay (by omega) _ μ13 xR13 xW13, fun y17 μ18 r18 => ?_⟩
      obtain ⟨xe, xr, xt⟩ := r18
      cases xe
      have hR18 : kp3 μ n p μ18 := xk13.of (fun c hc _ => xt.cc (by have : kC = 0 := rfl; omega))
      refine ⟨3, rfl, by decide, _, S_giveBack (i := 3) (by omega) (by decide) hR.n20 hR.p8 μ18 hR18 (fun q hq => ?_), fun μ25 xe25 => ?_⟩
      · obtain ⟨_, b1, b2, b3, b4, b5, b6, b7, b8, b9⟩ := hR.2.1.2.2.2 q hq
        exact ⟨b7, b8⟩
      · subst xe25
        have xRb : RLn μ (gbC μ13 n p (μ.1 kM_left) (μ.1 kM_where) (μ.1 kM_wasThere) (μ.1 kM_isDone) (μ.1 kM 16)) n p := RLn_back (Or.inr trivial) ⟨μ, hR⟩ xR13 hmv (fun _ _ => rfl) (fun _ _ => ⟨rfl, rfl, rfl⟩) rfl
        exact ⟨rfl, REL2.tell xRb.r xr.gb xt.gb (ble rfl), frC_gbC (xt.fr rfl rfl ((fr_kk xf8).tr xf13.c))⟩
    · have hv' := hv.thr
      refine m2_MT.intro (ls := [.ref kM, .int (nI pl)]) (by decide +kernel) rfl (ble rfl) (fun κ hk => ?_)
      refine B_X12_would_0 hk (Nat.zero_le _) ⟨fun _ => ⟨_, S_putBy3 (by omega) μ _ hv', fun μ6 r6 => ?_⟩, fun z => absurd ((in_k (k := 3) (by decide)).mpr ⟨pl, hpl, rfl⟩) z⟩
      obtain ⟨xv6, xf6, xp6, _⟩ := r6
      refine ⟨_, S_goAll (by omega) (-1) μ _ μ hR xv6 hpl, fun μ11 r11 => ?_⟩
      obtain ⟨xv, xf, x42, x43, x44, x45⟩ := r11
      rw [bts_day hR] at x45
      refine ⟨_, S_bring3 (by omega) μ _ μ11 μ hR hmv xv (xf.p xp6), fun μ16 r16 => ?_⟩
      obtain ⟨xv16, xf16, xj16, _⟩ := r16
      refine ⟨_, S_toldDay (by omega) μ16 ((xj16 42 (by decide)).trans x42) ((xj16 43 (by decide)).trans x43) ((xj16 44 (by decide)).trans x44) ((xj16 45 (by decide)).trans x45), fun y20 μ21 r21 => ?_⟩
      obtain ⟨xe, xr, xt⟩ := r21
      cases xe
      exact ⟨rfl, xv16.tell xr xt (ble rfl), xt.fr rfl rfl ((((fr.tr (fr_si rfl fr.rf) xf6).tr xf.m)).tr xf16)⟩
  · refine T_of (some (.int (-1))) μ ?_ (fun ν hv => ?_)
    · refine m2_MT.intro (ls := [.ref kC, .int x, .null]) (by decide +kernel) rfl (ble rfl) (fun κ hk => ?_)
      exact B_X11_would_0 hk (Nat.zero_le _) ⟨fun z => absurd (isPlan_iff.mp z) ok, fun _ => ⟨rfl, h, fr.rf⟩⟩
    · refine m2_MT.intro (ls := [.ref kM, .int x]) (by decide +kernel) rfl (ble rfl) (fun κ hk => ?_)
      exact B_X12_would_0 hk (Nat.zero_le _) ⟨fun z => absurd ((in_k (k := 3) (by decide)).mp z) ok, fun _ => ⟨rfl, hv.thr, fr_si rfl fr.rf⟩⟩
/-- the best PLAN -/
def btP (b m f w t : Int32) : Prop := b = -1 ∨ m < w ∨ (w = m ∧ t < f)
noncomputable def plS (n p : Nat) (ν : m2M) : Nat → Int32 × Int32 × Int32
  | 0 => (-1, 0, 0)
  | i + 1 => @ite _ (btP (plS n p ν i).1 (plS n p ν i).2.1 (plS n p ν i).2.2 (nI (wdN (rnS n p i (-1) ν p).1 p)) (nI (rnS n p i (-1) ν p).2)) (Classical.propDecidable _) (nI i, nI (wdN (rnS n p i (-1) ν p).1 p), nI (rnS n p i (-1) ν p).2) (plS n p ν i)
theorem i32_tri (x y : Int32) : x < y ∨ x = y ∨ y < x := by
  rcases (show x.toInt < y.toInt ∨ x.toInt = y.toInt ∨ y.toInt < x.toInt by omega) with w | w | w
  · exact Or.inl (Int32.lt_iff_toInt_lt.mpr w)
  · exact Or.inr (Or.inl (Int32.toInt_inj.mp w))
  · exact Or.inr (Or.inr (Int32.lt_iff_toInt_lt.mpr w))
theorem i32_asy {x y : Int32} (h1 : x < y) (h2 : y < x) : False := by
  rw [Int32.lt_iff_toInt_lt] at h1 h2
  omega
theorem i32_irr {x : Int32} (h : x < x) : False := i32_asy h h
theorem T_plan {D : Nat} (hD : 409 ≤ D) (μ : m2M) (h : REL μ) : stp D yX11_plan cX11_plan 6 (some .int) yX12_plan cX12_plan 5 (some .int) [] μ REL := by
  obtain ⟨D, rfl⟩ : ∃ E, D = E + 1 := ⟨D - 1, by omega⟩
  obtain ⟨n, p, hR⟩ := id h
  have hR : RLn μ μ n p := hR
  have es : ∀ i, plS n p μ (i + 1) = @ite _ (btP (plS n p μ i).1 (plS n p μ i).2.1 (plS n p μ i).2.2 (nI (wdN (rnS n p i (-1) μ p).1 p)) (nI (rnS n p i (-1) μ p).2)) (Classical.propDecidable _) (nI i, nI (wdN (rnS n p i (-1) μ p).1 p), nI (rnS n p i (-1) μ p).2) (plS n p μ i) := fun _ => rfl
  refine T_of (some (.int (plS n p μ 4).1)) (tlM μ [(plS n p μ 4).2.1.toInt64, (plS n p μ 4).2.2.toInt64]) ?_ (fun ν hv => ?_)
  · refine m2_MT.intro (ls := [.ref kC, .null, .null, .null, .null, .null]) (by decide +kernel) rfl (ble rfl) (fun κ hk => ?_)
    refine B_X11_plan_0 hk ⟨3, rfl, by decide, _, S_take3 (by omega) μ μ hR, fun μ4 r4 => ?_⟩
    obtain ⟨xR4, xk4, xf4⟩ := r4
    refine dn (n := 4) (G := fun i => ∀ μ1, RLn μ μ1 n p → kp3 μ n p μ1 → frC μ μ1 → κ 26 [.ref kC, .int (plS n p μ i).1, .int (plS n p μ i).2.1, .int (plS n p μ i).2.2, .int (nI i), .null] [] μ1) ?_ (fun i hi ih => ?_) μ4 xR4 xk4 (fr_kk xf4)
    · intro μ1 xR1 xk1 xf1
      refine B_X11_plan_26 hk ⟨fun _ => ⟨_, S_tellC _ _ rC.i (by decide), fun μ3 r3 => ⟨_, S_tellC _ _ r3.1 (ble rfl), fun μ8 r8 => ⟨rfl, ?_, ?_⟩⟩⟩, fun w => absurd (by decide) w⟩
      · exact REL2.tell xR1.r r8.1 ((twC.i.tr r3.2).tr r8.2) (ble rfl)
      · exact r8.2.fr rfl rfl (r3.2.fr rfl rfl (twC.i.fr rfl rfl xf1))
    · intro μ1 xR1 xk1 xf1
      have hmv := rnS_mv (pl := i) (lo := -1) hR p (Nat.le_refl p)
      rw [es] at ih
      refine B_X11_plan_26 hk ⟨fun w => absurd w (nI_ge (b := 4) hi (by decide)), fun _ => ?_⟩
      refine ⟨_, S_run (by omega) (-1) μ μ1 xR1 hi, fun μ13 r13 => ?_⟩
      obtain ⟨xR13, xf13, xW13⟩ := r13
      have xk13 : kp3 μ n p μ13 := xk1.of (fun c hc _ => xf13.k (by omega))
      refine ⟨_, S_worthDone _ μ13 xR13, fun y17 μ18 r18 => ?_⟩
      obtain ⟨xe17, xe18⟩ := r18
      cases xe17
      subst xe18
      rw [xW13, nI_1]
      generalize hS : plS n p μ i = S at ih
      have gb : ∀ (a b c : Int32), (∀ μ1, RLn μ μ1 n p → kp3 μ n p μ1 → frC μ μ1 → κ 26 [.ref kC, .int a, .int b, .int c, .int (nI (i + 1)), .null] [] μ1) → ∃ j23 : Nat, 3 = nI j23 ∧ j23 < 4 ∧ (∃ Q27 : Option Value → m2M → Prop, m2_MT D yX3_giveBack cX3_giveBack 4 none [.ref (kK j23), .ref kD, .ref kP] μ18 Q27 ∧ ∀ (μ26 : m2M), Q27 none μ26 → (κ 26 [.ref kC, .int a, .int b, .int c, .int (nI (i + 1)), .null] [] μ26)) := by
        intro a b c kk
        refine ⟨3, rfl, by decide, _, S_back3 (by omega) μ _ μ18 ⟨μ, hR⟩ xR13 hmv xk13, fun μ26 r26 => ?_⟩
        obtain ⟨xa, xb, xc, _⟩ := r26
        exact kk μ26 xa xb ((xf1.tr xf13.c).tr xc)
      have pos : btP S.1 S.2.1 S.2.2 (nI (wdN (rnS n p i (-1) μ p).1 p)) (nI (rnS n p i (-1) μ p).2) → ∃ j23 : Nat, 3 = nI j23 ∧ j23 < 4 ∧ (∃ Q27 : Option Value → m2M → Prop, m2_MT D yX3_giveBack cX3_giveBack 4 none [.ref (kK j23), .ref kD, .ref kP] μ18 Q27 ∧ ∀ (μ26 : m2M), Q27 none μ26 → (κ 26 [.ref kC, .int (nI i), .int (nI (wdN (rnS n p i (-1) μ p).1 p)), .int (nI (rnS n p i (-1) μ p).2), .int (nI (i + 1)), .null] [] μ26)) := by
        intro w
        rw [if_pos w] at ih
        exact gb _ _ _ ih
      have neg : ¬ btP S.1 S.2.1 S.2.2 (nI (wdN (rnS n p i (-1) μ p).1 p)) (nI (rnS n p i (-1) μ p).2) → ∃ j23 : Nat, 3 = nI j23 ∧ j23 < 4 ∧ (∃ Q27 : Option Value → m2M → Prop, m2_MT D yX3_giveBack cX3_giveBack 4 none [.ref (kK j23), .ref kD, .ref kP] μ18 Q27 ∧ ∀ (μ26 : m2M), Q27 none μ26 → (κ 26 [.ref kC, .int S.1, .int S.2.1, .int S.2.2, .int (nI (i + 1)), .null] [] μ26)) := by
        intro w
        rw [if_neg w] at ih
        exact gb _ _ _ ih
      refine ⟨fun w1 => pos (Or.inl w1), fun w1 => ⟨fun w2 => pos (Or.inr (Or.inl w2)), fun w2 => ⟨fun w3 => neg ?_, fun w3 => ⟨fun w4 => neg ?_, fun w4 => pos (Or.inr (Or.inr ⟨w3, Int32.not_le.mp w4⟩))⟩⟩⟩⟩
      · rintro (z | z | z)
        · exact w1 z
        · exact w2 z
        · exact w3 z.1
      · rintro (z | z | z)
        · exact w1 z
        · exact w2 z
        · exact absurd w4 (Int32.not_le.mpr z.2)
  · have hv' := hv.thr
    refine m2_MT.intro (ls := [.ref kM, .null, .null, .null, .null]) (by decide +kernel) rfl (ble rfl) (fun κ hk => ?_)
    refine B_X12_plan_0 hk ?_
    refine dn (n := 4) (G := fun i => ∀ μ1, vM μ μ1 → frM ν μ1 → κ 14 [.ref kM, .int (plS n p μ i).1, .int (plS n p μ i).2.1, .int (plS n p μ i).2.2, .int (nI i)] [] μ1) ?_ (fun i hi ih => ?_) _ hv' (fr_si rfl fr.rf)
    · intro μ1 xv1 xf1
      refine B_X12_plan_14 hk ⟨fun _ => ⟨_, S_tellM _ _ rM.i (by decide), fun μ3 r3 => ⟨_, S_tellM _ _ r3.1 (ble rfl), fun μ8 r8 => ⟨rfl, ?_, ?_⟩⟩⟩, fun w => absurd (by decide) w⟩
      · exact xv1.tell r8.1 ((twM.i.tr r3.2).tr r8.2) (ble rfl)
      · exact r8.2.fr rfl rfl (r3.2.fr rfl rfl (twM.i.fr rfl rfl xf1))
    · intro μ1 xv1 xf1
      have hmv := rnS_mv (pl := i) (lo := -1) hR p (Nat.le_refl p)
      rw [es] at ih
      refine B_X12_plan_14 hk ⟨fun w => absurd w (nI_ge (b := 4) hi (by decide)), fun _ => ?_⟩
      refine ⟨_, S_putBy3 (by omega) μ _ xv1, fun μ13 r13 => ?_⟩
      obtain ⟨xv13, xf13, xp13, _⟩ := r13
      refine ⟨_, S_goAll (by omega) (-1) μ _ μ hR xv13 hi, fun μ18 r18 => ?_⟩
      obtain ⟨xv, xf, x42, x43, x44, x45⟩ := r18
      refine ⟨_, S_bring3 (by omega) μ _ μ18 μ hR hmv xv (xf.p xp13), fun μ23 r23 => ?_⟩
      obtain ⟨xv23, xf23, xj23, _⟩ := r23
      rw [xj23 43 (by decide), xj23 44 (by decide), x43, x44, nI_1]
      have xf' : frM ν μ23 := (((xf1.tr xf13).tr xf.m)).tr xf23
      generalize hS : plS n p μ i = S at ih
      have pos : btP S.1 S.2.1 S.2.2 (nI (wdN (rnS n p i (-1) μ p).1 p)) (nI (rnS n p i (-1) μ p).2) → κ 14 [.ref kM, .int (nI i), .int (nI (wdN (rnS n p i (-1) μ p).1 p)), .int (nI (rnS n p i (-1) μ p).2), .int (nI (i + 1))] [] μ23 := by
        intro w
        rw [if_pos w] at ih
        exact ih μ23 xv23 xf'
      have neg : ¬ btP S.1 S.2.1 S.2.2 (nI (wdN (rnS n p i (-1) μ p).1 p)) (nI (rnS n p i (-1) μ p).2) → κ 14 [.ref kM, .int S.1, .int S.2.1, .int S.2.2, .int (nI (i + 1))] [] μ23 := by
        intro w
        rw [if_neg w] at ih
        exact ih μ23 xv23 xf'
      refine ⟨fun w1 => pos (Or.inl w1), fun w1 => ⟨fun w2 => neg ?_, fun w2 => ⟨fun w3 => pos (Or.inr (Or.inl ?_)), fun w3 => ⟨fun w4 => pos (Or.inr (Or.inr ⟨w3, w4⟩)), fun w4 => neg ?_⟩⟩⟩⟩
      · rintro (z | z | z)
        · exact w1 z
        · exact i32_asy w2 z
        · rw [z.1] at w2; exact i32_irr w2
      · rcases i32_tri S.2.1 (nI (wdN (rnS n p i (-1) μ p).1 p)) with z | z | z
        · exact z
        · exact absurd z.symm w3
        · exact absurd z w2
      · rintro (z | z | z)
        · exact w1 z
        · rw [w3] at z; exact i32_irr z
        · exact w4 z.2
/-- who is best left -/
noncomputable def lvS (n p pl : Nat) (ν : m2M) : Nat → Int32 × Int32
  | 0 => (-1, 0)
  | i + 1 => if gN ν i = -1 then lvS n p pl ν i else @ite _ ((lvS n p pl ν i).1 = -1 ∨ (lvS n p pl ν i).2 < nI (wdN (rnS n p pl (nI i) ν p).1 p)) (Classical.propDecidable _) (nI i, nI (wdN (rnS n p pl (nI i) ν p).1 p)) (lvS n p pl ν i)
theorem lvS_in (n p pl : Nat) (ν : m2M) : ∀ i, i ≤ 8 → (lvS n p pl ν i).1 = -1 ∨ in_ 8 (lvS n p pl ν i).1
  | 0, _ => Or.inl rfl
  | i + 1, hi => by
    unfold lvS
    by_cases z : gN ν i = -1
    · rw [if_pos z]; exact lvS_in n p pl ν i (by omega)
    · rw [if_neg z]
      by_cases z2 : (lvS n p pl ν i).1 = -1 ∨ (lvS n p pl ν i).2 < nI (wdN (rnS n p pl (nI i) ν p).1 p)
      · rw [if_pos z2]; exact Or.inr ⟨i, by omega, rfl⟩
      · rw [if_neg z2]; exact lvS_in n p pl ν i (by omega)
theorem S_toGo {D n p : Nat} (hD : 1 ≤ D) (ν μ μ0 : m2M) (hR : RLn ν μ0 n p) (hv : vM ν μ) : m2_MT D yX12_toGo cX12_toGo 3 (some .int) [.ref kM] μ (fun r μ' => r = some (.int (bts (fun q => !decide (gN ν q = -1)) p)) ∧ μ' = μ) := by
  obtain ⟨D, rfl⟩ : ∃ E, D = E + 1 := ⟨D - 1, by omega⟩
  have hp := hR.p8
  have h7 : μ.1 kM 7 = nI p := (hv.1 kM 7 rfl rfl).trans hR.2.1.2.1
  refine m2_MT.intro (ls := [.ref kM, .null, .null]) (by decide +kernel) rfl (ble rfl) (fun κ hk => ?_)
  refine B_X12_toGo_0 hk ?_
  refine dn (n := p) (G := fun i => κ 4 [.ref kM, .int (bts (fun q => !decide (gN ν q = -1)) i), .int (nI i)] [] μ) ?_ (fun i hi ih => ?_)
  · exact B_X12_toGo_4 hk (Nat.zero_le _) (pk_le p p (fun _ => ⟨rfl, rfl⟩) (fun w => absurd w (by omega)) h7)
  · refine B_X12_toGo_4 hk (Nat.zero_le _) (pk_le p i (fun w => absurd w (by omega)) (fun _ => ⟨vp_in_nI (by omega) (by decide), ?_⟩) h7)
    have eN : fX12_nextOf (nI i) μ = gN ν i := vM_gN hv
    rw [nI_1, eN]
    have es : bts (fun q => !decide (gN ν q = -1)) (i + 1) = bts (fun q => !decide (gN ν q = -1)) i ||| (if (!decide (gN ν i = -1)) = true then (1 : Int32) <<< (nI i &&& 31) else 0) := rfl
    rw [es] at ih
    by_cases w : gN ν i = -1
    · rw [if_neg (by simp [w])] at ih
      rw [if_pos w]
      exact ih
    · rw [if_pos (by simp [w])] at ih
      rw [if_neg w]
      exact ih
theorem T_leave {D : Nat} (hD : 409 ≤ D) (x : Int32) (μ : m2M) (h : REL μ) : stp D yX11_leave cX11_leave 6 (some .int) yX12_leave cX12_leave 6 (some .int) [.int x] μ REL := by
  obtain ⟨D, rfl⟩ : ∃ E, D = E + 1 := ⟨D - 1, by omega⟩
  obtain ⟨n, p, hR⟩ := id h
  have hR : RLn μ μ n p := hR
  have hp := hR.p8
  by_cases ok : in_ 4 x
  · obtain ⟨pl, hpl, rfl⟩ := ok
    have es : ∀ i, lvS n p pl μ (i + 1) = if gN μ i = -1 then lvS n p pl μ i else @ite _ ((lvS n p pl μ i).1 = -1 ∨ (lvS n p pl μ i).2 < nI (wdN (rnS n p pl (nI i) μ p).1 p)) (Classical.propDecidable _) (nI i, nI (wdN (rnS n p pl (nI i) μ p).1 p)) (lvS n p pl μ i) := fun _ => rfl
    refine T_of (if (lvS n p pl μ p).1 = -1 then some (.int (-2)) else some (.int (lvS n p pl μ p).1)) (if (lvS n p pl μ p).1 = -1 then μ else tlM μ [(lvS n p pl μ p).2.toInt64]) ?_ (fun ν hv => ?_)
    · refine m2_MT.intro (ls := [.ref kC, .int (nI pl), .null, .null, .null, .null]) (by decide +kernel) rfl (ble rfl) (fun κ hk => ?_)
      refine B_X11_leave_0 hk (Nat.zero_le _) ⟨fun _ => ⟨3, rfl, by decide, _, S_take3 (by omega) μ μ hR, fun μ4 r4 => ?_⟩, fun z => absurd (isPlan_iff.mpr ⟨pl, hpl, rfl⟩) z⟩
      obtain ⟨xR4, xk4, xf4⟩ := r4
      refine dn (n := p) (G := fun i => ∀ μ1, RLn μ μ1 n p → kp3 μ n p μ1 → frC μ μ1 → κ 33 [.ref kC, .int (nI pl), .int (lvS n p pl μ i).1, .int (lvS n p pl μ i).2, .int (nI i), .null] [] μ1) ?_ (fun i hi ih => ?_) μ4 xR4 xk4 (fr_kk xf4)
      · intro μ1 xR1 xk1 xf1
        refine B_X11_leave_33 hk (Nat.zero_le _) (pk_le p p (fun _ => ⟨fun w => ⟨_, S_tellC _ _ rC.i (by decide), fun μ4 r4 => ⟨by rw [if_neg w], ?_, ?_⟩⟩, fun w => ⟨by rw [if_pos w], by rw [if_pos w]; exact xR1.r, xf1⟩⟩) (fun w => absurd w (by omega)) xR1.2.1.1)
        · rw [if_neg w]
          exact REL2.tell xR1.r r4.1 (twC.i.tr r4.2) (ble rfl)
        · exact r4.2.fr rfl rfl (twC.i.fr rfl rfl xf1)
      · intro μ1 xR1 xk1 xf1
        have hmv := rnS_mv (pl := pl) (lo := nI i) hR p (Nat.le_refl p)
        rw [es] at ih
        refine B_X11_leave_33 hk (Nat.zero_le _) (pk_le p i (fun w => absurd w (by omega)) (fun _ => ⟨vp_in_nI (by omega) (by decide), fun w => ?_, fun w => ?_⟩) xR1.2.1.1)
        · have hb := (xR1.busy hi).mp w
          rw [if_neg hb] at ih
          refine ⟨_, S_run (by omega) (nI i) μ μ1 xR1 hpl, fun μ13 r13 => ?_⟩
          obtain ⟨xR13, xf13, xW13⟩ := r13
          have xk13 : kp3 μ n p μ13 := xk1.of (fun c hc _ => xf13.k (by omega))
          refine ⟨_, S_worthDone _ μ13 xR13, fun y17 μ18 r18 => ?_⟩
          obtain ⟨xe17, xe18⟩ := r18
          cases xe17
          subst xe18
          rw [nI_1]
          generalize hS : lvS n p pl μ i = S at ih
          have gb : ∀ (a b : Int32), (∀ μ1, RLn μ μ1 n p → kp3 μ n p μ1 → frC μ μ1 → κ 33 [.ref kC, .int (nI pl), .int a, .int b, .int (nI (i + 1)), .null] [] μ1) → ∃ j23 : Nat, 3 = nI j23 ∧ j23 < 4 ∧ (∃ Q27 : Option Value → m2M → Prop, m2_MT D yX3_giveBack cX3_giveBack 4 none [.ref (kK j23), .ref kD, .ref kP] μ18 Q27 ∧ ∀ (μ26 : m2M), Q27 none μ26 → (κ 33 [.ref kC, .int (nI pl), .int a, .int b, .int (nI (i + 1)), .null] [] μ26)) := by
            intro a b kk
            refine ⟨3, rfl, by decide, _, S_back3 (by omega) μ _ μ18 ⟨μ, hR⟩ xR13 hmv xk13, fun μ26 r26 => ?_⟩
            obtain ⟨xa, xb, xc, _⟩ := r26
            exact kk μ26 xa xb ((xf1.tr xf13.c).tr xc)
          refine ⟨fun w1 => gb _ _ (by rw [if_pos (Or.inl w1)] at ih; exact ih), fun w1 => ⟨fun w2 => gb _ _ ?_, fun w2 => gb _ _ (by rw [if_pos (Or.inr (Int32.not_le.mp w2))] at ih; exact ih)⟩⟩
          rw [if_neg (by rintro (z | z); exact w1 z; exact absurd w2 (Int32.not_le.mpr z))] at ih
          exact ih
        · have hb : gN μ i = -1 := by
            apply Classical.byContradiction
            intro z
            exact w ((xR1.busy hi).mpr z)
          rw [if_pos hb] at ih
          rw [nI_1]
          exact ih μ1 xR1 xk1 xf1
    · have hv' := hv.thr
      refine m2_MT.intro (ls := [.ref kM, .int (nI pl), .null, .null, .null, .null]) (by decide +kernel) rfl (ble rfl) (fun κ hk => ?_)
      refine B_X12_leave_0 hk (Nat.zero_le _) ⟨fun _ => ⟨_, S_toGo (by omega) μ _ μ hR hv', fun y5 μ6 r6 => ?_⟩, fun z => absurd ((in_k (k := 3) (by decide)).mpr ⟨pl, hpl, rfl⟩) z⟩
      obtain ⟨xe5, xe6⟩ := r6
      cases xe5
      subst xe6
      let b' : Int32 → Int32 := fun b => if b = -1 then -2 else b
      have hb' : ∀ i, i ≤ 8 → ((lvS n p pl μ i).1 = -1 ↔ b' (lvS n p pl μ i).1 < 0) ∧ ((lvS n p pl μ i).1 ≠ -1 ↔ (0 : Int32) ≤ b' (lvS n p pl μ i).1) := by
        intro i hi
        rcases lvS_in n p pl μ i hi with w | ⟨a, ha, w⟩
        · rw [w]; exact ⟨⟨fun _ => by decide, fun _ => rfl⟩, ⟨fun z => absurd rfl z, fun z => absurd z (by decide)⟩⟩
        · have hne : (lvS n p pl μ i).1 ≠ -1 := by rw [w]; exact nI_ne_m1 (by omega)
          have e : b' (lvS n p pl μ i).1 = nI a := by
            show (if _ then _ else _) = _
            rw [if_neg hne, w]
          rw [e]
          exact ⟨⟨fun z => absurd z hne, fun z => absurd z (nI_pos (by omega))⟩, ⟨fun _ => nI_pos' (by omega), fun _ => hne⟩⟩
      refine dn (n := p) (G := fun i => ∀ μ1, vM μ μ1 → frM ν μ1 → κ 30 [.ref kM, .int (nI pl), .int (bts (fun q => !decide (gN μ q = -1)) p), .int (b' (lvS n p pl μ i).1), .int (lvS n p pl μ i).2, .int (nI i)] [] μ1) ?_ (fun i hi ih => ?_) _ hv' (fr_si rfl fr.rf)
      · intro μ1 xv1 xf1
        have h7 : μ1.1 kM 7 = nI p := (xv1.1 kM 7 rfl rfl).trans hR.2.1.2.1
        refine B_X12_leave_30 hk (Nat.zero_le _) (pk_le p p (fun _ => ⟨fun w => ⟨_, S_tellM _ _ rM.i (by decide), fun μ4 r4 => ?_⟩, fun w => ?_⟩) (fun w => absurd w (by omega)) h7)
        · have w' := (hb' p hp).2.mpr w
          refine ⟨?_, ?_, ?_⟩
          · rw [if_neg w']
            show some (Value.int (if _ then _ else _)) = _
            rw [if_neg w']
          · rw [if_neg w']
            exact xv1.tell r4.1 (twM.i.tr r4.2) (ble rfl)
          · exact r4.2.fr rfl rfl (twM.i.fr rfl rfl xf1)
        · have w' : (lvS n p pl μ p).1 = -1 := by
            apply Classical.byContradiction
            intro z
            exact w ((hb' p hp).2.mp z)
          exact ⟨by rw [if_pos w'], by rw [if_pos w']; exact xv1, xf1⟩
      · intro μ1 xv1 xf1
        have h7 : μ1.1 kM 7 = nI p := (xv1.1 kM 7 rfl rfl).trans hR.2.1.2.1
        have hmv := rnS_mv (pl := pl) (lo := nI i) hR p (Nat.le_refl p)
        rw [es] at ih
        have hbit : fX12_has (bts (fun q => !decide (gN μ q = -1)) p) (nI i) = 1 ↔ gN μ i ≠ -1 := by
          rw [has_iff (by omega), bts_get _ _ (by omega)]
          simp [hi]
        refine B_X12_leave_30 hk (Nat.zero_le _) (pk_le p i (fun w => absurd w (by omega)) (fun _ => ⟨fun w => ?_, fun w => ?_⟩) h7)
        · have hb := hbit.mp w
          rw [if_neg hb] at ih
          refine ⟨_, S_putBy3 (by omega) μ _ xv1, fun μ13 r13 => ?_⟩
          obtain ⟨xv13, xf13, xp13, _⟩ := r13
          refine ⟨_, S_goAll (by omega) (nI i) μ _ μ hR xv13 hpl, fun μ18 r18 => ?_⟩
          obtain ⟨xv, xf, x42, x43, x44, x45⟩ := r18
          refine ⟨_, S_bring3 (by omega) μ _ μ18 μ hR hmv xv (xf.p xp13), fun μ23 r23 => ?_⟩
          obtain ⟨xv23, xf23, xj23, _⟩ := r23
          rw [xj23 43 (by decide), x43, nI_1]
          have xf' : frM ν μ23 := (((xf1.tr xf13).tr xf.m)).tr xf23
          have hbi := hb' i (by omega)
          generalize hS : lvS n p pl μ i = S at ih hbi
          have ei : b' (nI i) = nI i := if_neg (nI_ne_m1 (by omega))
          refine ⟨fun w1 => ?_, fun w1 => ⟨fun w2 => ?_, fun w2 => ?_⟩⟩
          · rw [if_pos (Or.inl (hbi.1.mpr w1))] at ih
            have := ih μ23 xv23 xf'
            rw [ei] at this
            exact this
          · rw [if_pos (Or.inr w2)] at ih
            have := ih μ23 xv23 xf'
            rw [ei] at this
            exact this
          · rw [if_neg (by rintro (z | z); exact w1 (hbi.1.mp z); exact w2 z)] at ih
            exact ih μ23 xv23 xf'
        · have hb : gN μ i = -1 := by
            apply Classical.byContradiction
            intro z
            exact w (hbit.mpr z)
          rw [if_pos hb] at ih
          rw [nI_1]
          exact ih μ1 xv1 xf1
  · refine T_of (some (.int (-1))) μ ?_ (fun ν hv => ?_)
    · refine m2_MT.intro (ls := [.ref kC, .int x, .null, .null, .null, .null]) (by decide +kernel) rfl (ble rfl) (fun κ hk => ?_)
      exact B_X11_leave_0 hk (Nat.zero_le _) ⟨fun z => absurd (isPlan_iff.mp z) ok, fun _ => ⟨rfl, h, fr.rf⟩⟩
    · refine m2_MT.intro (ls := [.ref kM, .int x, .null, .null, .null, .null]) (by decide +kernel) rfl (ble rfl) (fun κ hk => ?_)
      exact B_X12_leave_0 hk (Nat.zero_le _) ⟨fun z => absurd ((in_k (k := 3) (by decide)).mp z) ok, fun _ => ⟨rfl, hv.thr, fr_si rfl fr.rf⟩⟩
