/-! a day by PLANS: trips, all who go -/
def tripN (n p q pl : Nat) : Nat → m2M → m2M × Nat × Bool
  | 0, ν => (ν, 0, false)
  | k + 1, ν => if gN ν q = -1 then (ν, 0, false) else match lgO ν n p q pl with
    | none => (ν, 0, true)
    | some l => ((tripN n p q pl k (gW q l ν)).1, l.length + (tripN n p q pl k (gW q l ν)).2.1, (tripN n p q pl k (gW q l ν)).2.2)
theorem gW_at {q c : Nat} (h1 : c ≠ kM_left) (h2 : c ≠ kM_where) (h3 : c ≠ kM_wasThere) (h4 : c ≠ kM_isDone) : ∀ {l : List Nat} {ν : m2M}, (gW q l ν).1 c = ν.1 c
  | [], _ => rfl
  | d :: l, ν => (gW_at h1 h2 h3 h4 (l := l) (ν := gG ν q d)).trans (gG_at h1 h2 h3 h4)
theorem gG_was {ν : m2M} {q d : Nat} (h : ν.1 kM_wasThere q = 1) : (gG ν q d).1 kM_wasThere q = 1 := by
  unfold gG gA
  rw [si_nc _ _ _ (by decide), si_at]
  unfold gRt
  rw [gS_ne (by decide), gS_ne (by decide), h]
  split <;> rfl
theorem gW_was {q : Nat} : ∀ {l : List Nat} {ν : m2M}, ν.1 kM_wasThere q = 1 → (gW q l ν).1 kM_wasThere q = 1
  | [], _, h => h
  | _ :: l, _, h => gW_was (l := l) (gG_was h)
theorem gG_oth {ν : m2M} {q d q' c : Nat} (h : q' ≠ q) (hc : c ≠ kM_left) : (gG ν q d).1 c q' = ν.1 c q' := by
  have key : ∀ (ρ : m2M) (c' : Nat) (x : Int32), (m2_si ρ c' q x).1 c q' = ρ.1 c q' := by
    intro ρ c' x
    by_cases e : c = c'
    · subst e; exact si_nj _ _ _ h
    · rw [si_nc _ _ _ e]
  unfold gG gA
  rw [key, key, key, gS_ne hc]
theorem gW_oth {q q' c : Nat} (h : q' ≠ q) (hc : c ≠ kM_left) : ∀ {l : List Nat} {ν : m2M}, (gW q l ν).1 c q' = ν.1 c q'
  | [], _ => rfl
  | d :: l, ν => (gW_oth h hc (l := l) (ν := gG ν q d)).trans (gG_oth h hc)
theorem gN_cg {ν ν' : m2M} {q : Nat} (hq : q < 8) (h1 : ν'.1 kM_errand q = ν.1 kM_errand q) (h2 : ν'.1 kM_isDone q = ν.1 kM_isDone q) (h3 : ν'.1 kM_wasThere q = ν.1 kM_wasThere q) (h4 : ν'.1 kM_home q = ν.1 kM_home q) : gN ν' q = gN ν q := by
  rw [gN_eq hq, gN_eq hq, h1, h2, h3, h4]
theorem gN_oth {ν : m2M} {q q' : Nat} {l : List Nat} (hq : q' < 8) (h : q' ≠ q) : gN (gW q l ν) q' = gN ν q' := gN_cg hq (gW_oth h (by decide)) (gW_oth h (by decide)) (gW_oth h (by decide)) (gW_oth h (by decide))
def rkN (ν : m2M) (q : Nat) : Nat := if gN ν q = -1 then 0 else if ν.1 kM_wasThere q = 0 then 2 else 1
theorem rkN_le (ν : m2M) (q : Nat) : rkN ν q ≤ 2 := by
  unfold rkN
  split
  · omega
  · split <;> omega
theorem leg_rk {ν μ : m2M} {n p q : Nat} {l : List Nat} (hR : RLn ν μ n p) (hq : q < p) (hb : gN ν q ≠ -1) (hs : wkS ν n q l (gnN ν q)) : rkN (gW q l ν) q < rkN ν q := by
  have hp := hR.p8
  obtain ⟨⟨μ', hR'⟩, hw'⟩ := gW_R hq hR hs
  have iv := hR'.2.2.2.2.2.2.2.2.2.1 p q hR'.2.1.2.1 hp hq
  have eg := (hR.gn hq hb).1
  have ew : (gW q l ν).1 kM_where q = gN ν q := by rw [(hR'.hw q hq).1, hw', eg]
  have b7 := (hR.2.1.2.2.2 q hq).2.2.2.2.2.2.2.1
  have g := hb
  rw [gN_eq (by omega)] at hb ew
  rw [ew, gW_at (c := kM_errand) (by decide) (by decide) (by decide) (by decide), gW_at (c := kM_comesBack) (by decide) (by decide) (by decide) (by decide), gW_at (c := kM_home) (by decide) (by decide) (by decide) (by decide)] at iv
  by_cases z1 : ν.1 kM_errand q = -1
  · rw [if_pos z1] at hb; exact absurd rfl hb
  · rw [if_neg z1] at hb iv
    by_cases z2 : ν.1 kM_isDone q = 0
    · rw [if_pos z2] at iv
      obtain ⟨i1, i2⟩ := iv z1
      unfold rkN
      rw [if_neg g]
      by_cases z3 : ν.1 kM_wasThere q = 0
      · rw [if_pos z3] at i1 ⊢
        rw [i1 rfl]
        split
        · omega
        · rw [if_neg (by decide)]; omega
      · rw [if_neg z3] at i2 ⊢
        have t1 : (gW q l ν).1 kM_wasThere q = 1 := gW_was (b7.resolve_left z3)
        have t2 := i2 t1 (Or.inr rfl)
        have : gN (gW q l ν) q = -1 := by
          rw [gN_eq (by omega), t2]
          split
          · rfl
          · rw [if_neg (by decide)]
        rw [if_pos this]
        omega
    · rw [if_neg z2] at hb; exact absurd rfl hb
theorem tripN_R {n p q pl : Nat} (hq : q < p) : ∀ (k : Nat) {ν μ : m2M}, RLn ν μ n p → ∃ μ', RLn (tripN n p q pl k ν).1 μ' n p
  | 0, ν, μ, hR => ⟨μ, hR⟩
  | k + 1, ν, μ, hR => by
    unfold tripN
    by_cases z : gN ν q = -1
    · rw [if_pos z]; exact ⟨μ, hR⟩
    · rw [if_neg z]
      cases e : lgO ν n p q pl with
      | none => exact ⟨μ, hR⟩
      | some l =>
        obtain ⟨⟨μ', hR'⟩, _⟩ := gW_R hq hR (wyP_ok hR hq (hR.gn hq z).2 e).1
        exact tripN_R hq k hR'
theorem tripN_oth {n p q pl q' c : Nat} (h : q' ≠ q) (hc : c ≠ kM_left) : ∀ (k : Nat) {ν : m2M}, (tripN n p q pl k ν).1.1 c q' = ν.1 c q'
  | 0, _ => rfl
  | k + 1, ν => by
    unfold tripN
    by_cases z : gN ν q = -1
    · rw [if_pos z]
    · rw [if_neg z]
      cases e : lgO ν n p q pl with
      | none => rfl
      | some l => exact (tripN_oth h hc k).trans (gW_oth h hc)
theorem tripN_at {n p q pl c : Nat} (h1 : c ≠ kM_left) (h2 : c ≠ kM_where) (h3 : c ≠ kM_wasThere) (h4 : c ≠ kM_isDone) : ∀ (k : Nat) {ν : m2M}, (tripN n p q pl k ν).1.1 c = ν.1 c
  | 0, _ => rfl
  | k + 1, ν => by
    unfold tripN
    by_cases z : gN ν q = -1
    · rw [if_pos z]
    · rw [if_neg z]
      cases e : lgO ν n p q pl with
      | none => rfl
      | some l => exact (tripN_at h1 h2 h3 h4 k).trans (gW_at h1 h2 h3 h4)
theorem tripN_cant {n p q pl : Nat} (hq : q < p) : ∀ (k : Nat) {ν μ : m2M}, RLn ν μ n p → rkN ν q ≤ k → ((tripN n p q pl k ν).2.2 = true ↔ gN (tripN n p q pl k ν).1 q ≠ -1)
  | 0, ν, μ, hR, hk => by
    have : gN ν q = -1 := by
      apply Classical.byContradiction
      intro z
      unfold rkN at hk
      rw [if_neg z] at hk
      split at hk <;> omega
    exact ⟨fun z => absurd z (by simp [tripN]), fun z => absurd this z⟩
  | k + 1, ν, μ, hR, hk => by
    unfold tripN
    by_cases z : gN ν q = -1
    · rw [if_pos z]; exact ⟨fun w => absurd w (by simp), fun w => absurd z w⟩
    · rw [if_neg z]
      cases e : lgO ν n p q pl with
      | none => exact ⟨fun _ => z, fun _ => rfl⟩
      | some l =>
        have hs := (wyP_ok hR hq (hR.gn hq z).2 e).1
        obtain ⟨⟨μ', hR'⟩, _⟩ := gW_R hq hR hs
        have := leg_rk hR hq z hs
        exact tripN_cant hq k hR' (by omega)
theorem mvd_gG {n p q d : Nat} {ν0 ν : m2M} (h : mvd n p ν0 ν) (hq : q < p) (hd : d < n) : mvd n p ν0 (gG ν q d) := by
  have h1 : mvd n p ν0 (gS ν q d) := by
    unfold gS
    by_cases z : ν.1 kM_isStranger q = 0
    · rw [if_pos z]; exact mvd_left h (fun j hj => upd_ne (by omega))
    · rw [if_neg z]; exact h
  unfold gG gA
  exact mvd_people (mvd_people (mvd_people h1 (Or.inl rfl) (fun j hj => upd_ne (by omega))) (Or.inr (Or.inl rfl)) (fun j hj => upd_ne (by omega))) (Or.inr (Or.inr rfl)) (fun j hj => upd_ne (by omega))
theorem mvd_gW {n p q : Nat} {ν0 : m2M} (hq : q < p) : ∀ {l : List Nat} {ν : m2M}, mvd n p ν0 ν → (∀ d, d ∈ l → d < n) → mvd n p ν0 (gW q l ν)
  | [], _, h, _ => h
  | d :: l, ν, h, hl => by
    show mvd n p ν0 (gW q l (gG ν q d))
    exact mvd_gW hq (mvd_gG h hq (hl d (by simp))) (fun e he => hl e (by simp [he]))
theorem mvd_trip {n p q pl : Nat} {ν0 : m2M} (hq : q < p) : ∀ (k : Nat) {ν μ : m2M}, RLn ν μ n p → mvd n p ν0 ν → mvd n p ν0 (tripN n p q pl k ν).1
  | 0, _, _, _, h => h
  | k + 1, ν, μ, hR, h => by
    unfold tripN
    by_cases z : gN ν q = -1
    · rw [if_pos z]; exact h
    · rw [if_neg z]
      cases e : lgO ν n p q pl with
      | none => exact h
      | some l =>
        have hs := (wyP_ok hR hq (hR.gn hq z).2 e).1
        obtain ⟨⟨μ', hR'⟩, _⟩ := gW_R hq hR hs
        exact mvd_trip hq k hR' (mvd_gW hq h (fun d hd => (hs.2.2 d hd).1))
/-- all but one -/
def rnS (n p pl : Nat) (lo : Int32) (ν : m2M) : Nat → m2M × Nat
  | 0 => (ν, 0)
  | i + 1 => if nI i = lo then rnS n p pl lo ν i else ((tripN n p i pl 2 (rnS n p pl lo ν i).1).1, (rnS n p pl lo ν i).2 + (tripN n p i pl 2 (rnS n p pl lo ν i).1).2.1)
theorem rnS_R {n p pl : Nat} {lo : Int32} {ν μ : m2M} (hR : RLn ν μ n p) : ∀ i, i ≤ p → ∃ μ', RLn (rnS n p pl lo ν i).1 μ' n p
  | 0, _ => ⟨μ, hR⟩
  | i + 1, hi => by
    obtain ⟨μ', h'⟩ := rnS_R (pl := pl) (lo := lo) hR i (by omega)
    unfold rnS
    by_cases z : nI i = lo
    · rw [if_pos z]; exact ⟨μ', h'⟩
    · rw [if_neg z]; exact tripN_R (by omega) 2 h'
theorem rnS_mv {n p pl : Nat} {lo : Int32} {ν μ : m2M} (hR : RLn ν μ n p) : ∀ i, i ≤ p → mvd n p ν (rnS n p pl lo ν i).1
  | 0, _ => mvd.of vM.rf
  | i + 1, hi => by
    obtain ⟨μ', h'⟩ := rnS_R (pl := pl) (lo := lo) hR i (by omega)
    unfold rnS
    by_cases z : nI i = lo
    · rw [if_pos z]; exact rnS_mv hR i (by omega)
    · rw [if_neg z]; exact mvd_trip (by omega) 2 h' (rnS_mv hR i (by omega))
theorem rnS_oth {n p pl q' c : Nat} {lo : Int32} {ν : m2M} (hc : c ≠ kM_left) : ∀ i j, q' < i → i ≤ j → (rnS n p pl lo ν j).1.1 c q' = (rnS n p pl lo ν i).1.1 c q' := by
  intro i j hi hij
  induction j with
  | zero => omega
  | succ j ih =>
    by_cases e : i = j + 1
    · subst e; rfl
    · rw [← ih (by omega)]
      show (if nI j = lo then _ else _ : m2M × Nat).1.1 c q' = _
      by_cases z : nI j = lo
      · rw [if_pos z]
      · rw [if_neg z]
        exact tripN_oth (by omega) hc 2
def cnF (n p pl : Nat) (lo : Int32) (ν : m2M) (q : Nat) : Bool := !decide (nI q = lo) && (tripN n p q pl 2 (rnS n p pl lo ν q).1).2.2
theorem rnS_busy {n p pl q : Nat} {ν μ : m2M} (hR : RLn ν μ n p) (hq : q < p) : cnF n p pl (-1) ν q = true ↔ gN (rnS n p pl (-1) ν p).1 q ≠ -1 := by
  have hp := hR.p8
  obtain ⟨μ', h'⟩ := rnS_R (pl := pl) (lo := -1) hR q (by omega)
  have hz : ¬ nI q = -1 := nI_ne_m1 (by omega)
  have e : gN (rnS n p pl (-1) ν p).1 q = gN (rnS n p pl (-1) ν (q + 1)).1 q := gN_cg (by omega) (rnS_oth (by decide) _ _ (by omega) (by omega)) (rnS_oth (by decide) _ _ (by omega) (by omega)) (rnS_oth (by decide) _ _ (by omega) (by omega)) (rnS_oth (by decide) _ _ (by omega) (by omega))
  have e2 : (rnS n p pl (-1) ν (q + 1)).1 = (tripN n p q pl 2 (rnS n p pl (-1) ν q).1).1 := by
    show (if nI q = -1 then _ else _ : m2M × Nat).1 = _
    rw [if_neg hz]
  rw [e, e2, ← tripN_cant hq 2 h' (rkN_le _ _)]
  unfold cnF
  simp [hz]
/-- the class's trip, run -/
theorem S_trip {D n p q pl : Nat} (hD : 5 ≤ D) (ν μ : m2M) (hR : RLn ν μ n p) (hq : q < p) (hpl : pl < 4) : m2_MT D yX10_trip cX10_trip 6 (some .int) [.ref kW, .int (nI q), .int (nI pl)] μ (fun r μ' => r = some (.int (nI (tripN n p q pl 2 ν).2.1)) ∧ RLn (tripN n p q pl 2 ν).1 μ' n p ∧ frG μ μ') := by
  obtain ⟨D, rfl⟩ : ∃ E, D = E + 1 := ⟨D - 1, by omega⟩
  have hp := hR.p8
  have tr : ∀ (k : Nat) (ν1 : m2M), tripN n p q pl (k + 1) ν1 = if gN ν1 q = -1 then (ν1, 0, false) else match lgO ν1 n p q pl with
    | none => (ν1, 0, true)
    | some l => ((tripN n p q pl k (gW q l ν1)).1, l.length + (tripN n p q pl k (gW q l ν1)).2.1, (tripN n p q pl k (gW q l ν1)).2.2) := fun _ _ => rfl
  generalize hT : tripN n p q pl 2 ν = T
  refine m2_MT.intro (ls := [.ref kW, .int (nI q), .int (nI pl), .null, .null, .null]) (by decide +kernel) rfl (ble rfl) (fun κ hk => ?_)
  refine B_X10_trip_0 hk ?_
  have key : ∀ (k s : Nat) (ν1 μ1 : m2M), k ≤ 2 → RLn ν1 μ1 n p → frG μ μ1 → (tripN n p q pl k ν1).1 = T.1 → s + (tripN n p q pl k ν1).2.1 = T.2.1 → κ 5 [.ref kW, .int (nI q), .int (nI pl), .int (nI s), .int (nI (2 - k)), .null] [] μ1 := by
    intro k
    induction k with
    | zero =>
      intro s ν1 μ1 _ r1 f1 e1 e2
      refine B_X10_trip_5 hk (Nat.zero_le _) ⟨fun _ => ⟨?_, ?_, f1⟩, fun w => absurd (by decide) w⟩
      · rw [← e2]; rfl
      · rw [← e1]; exact r1
    | succ k ih =>
      intro s ν1 μ1 hk2 r1 f1 e1 e2
      refine B_X10_trip_5 hk (Nat.zero_le _) ⟨fun w => absurd w (nI_ge (b := 2) (by omega) (by decide)), fun _ => ⟨vp_in_nI (by omega) (by decide), fun w => ?_, fun w => ?_⟩⟩
      · have hb := (r1.busy hq).mp w
        refine ⟨_, S_leg (by omega) ν1 μ1 r1 hq hpl hb, fun y7 μ8 r8 => ?_⟩
        obtain ⟨f8, m8⟩ := r8
        rw [tr, if_neg hb] at e1 e2
        rcases e : lgO ν1 n p q pl with _ | l
        · rw [e] at m8 e1 e2
          obtain ⟨xm1, xm2⟩ := m8
          cases xm1
          refine ⟨fun w => absurd rfl w, fun _ => ⟨?_, ?_, f1.tr f8⟩⟩
          · rw [← e2]; rfl
          · rw [← e1]; exact xm2
        · rw [e] at m8 e1 e2
          obtain ⟨xm1, xm2, xm3⟩ := m8
          cases xm1
          have hl := (wyP_ok r1 hq (r1.gn hq hb).2 e).2
          refine ⟨fun _ => ?_, fun w => absurd w (nI_ne_m1 (by omega))⟩
          rw [nI_add, nI_1, show 2 - (k + 1) + 1 = 2 - k by omega]
          refine ih (s + l.length) (gW q l ν1) μ8 (by omega) xm2 (f1.tr f8) e1 ?_
          rw [← e2]
          show _ = s + (l.length + _)
          omega
      · have hb : gN ν1 q = -1 := by
          apply Classical.byContradiction
          intro z
          exact w ((r1.busy hq).mpr z)
        rw [tr, if_pos hb] at e1 e2
        refine ⟨?_, ?_, f1⟩
        · rw [← e2]; rfl
        · rw [← e1]; exact r1
  exact key 2 0 ν μ (Nat.le_refl 2) hR fr.rf (by rw [hT]) (by rw [hT, Nat.zero_add])
def frH (μ μ' : m2M) : Prop := fr (fun c => isG c || (c == kW)) μ μ' ∧ ∀ j, j ≠ 7 → μ'.1 kW j = μ.1 kW j
theorem frG.h {μ μ' : m2M} (h : frG μ μ') : frH μ μ' := ⟨fr.mo h (fun c hc => by simp only [Bool.or_eq_false_iff] at hc; exact hc.1), fun j _ => by rw [(h kW rfl).1]⟩
theorem frH.tr {μ ν ρ : m2M} (h1 : frH μ ν) (h2 : frH ν ρ) : frH μ ρ := ⟨h1.1.tr h2.1, fun j hj => (h2.2 j hj).trans (h1.2 j hj)⟩
theorem frH.c {μ μ' : m2M} (h : frH μ μ') : frC μ μ' := by
  intro c hc
  by_cases e : c = kW
  · subst e
    refine h.1 kW ?_
    exact absurd hc (by decide)
  · refine h.1 c ?_
    have hc2 : (!isM c) = false := hc
    cases e2 : isG c with
    | false => simp [e, e2]
    | true =>
      have : isG c = false := by
        cases e3 : isG c with
        | false => rfl
        | true =>
          have hx : frG μ (m2_sr μ c (fun _ => μ.1 c 0 + 1)) := fr_sr e3 fr.rf
          have := (hx.c c hc).1
          rw [m2_sr_same] at this
          have := congrFun this 0
          exact absurd this (by
            intro z
            have z2 := congrArg (fun x : Int32 => x - μ.1 c 0) z
            simp at z2
            exact absurd z2 (by rw [Int32.add_comm, Int32.add_sub_cancel]; decide))
      rw [this] at e2
      cases e2
theorem S_run {D n p pl : Nat} (hD : 6 ≤ D) (lo : Int32) (ν μ : m2M) (hR : RLn ν μ n p) (hpl : pl < 4) : m2_MT D yX10_run cX10_run 5 none [.ref kW, .int (nI pl), .int lo] μ (fun _ μ' => RLn (rnS n p pl lo ν p).1 μ' n p ∧ frH μ μ' ∧ μ'.1 kW 7 = nI (rnS n p pl lo ν p).2) := by
  obtain ⟨D, rfl⟩ : ∃ E, D = E + 1 := ⟨D - 1, by omega⟩
  have hp := hR.p8
  refine m2_MT.intro (ls := [.ref kW, .int (nI pl), .int lo, .null, .null]) (by decide +kernel) rfl (ble rfl) (fun κ hk => ?_)
  refine B_X10_run_0 hk ?_
  refine dn (n := p) (G := fun i => ∀ μ1, RLn (rnS n p pl lo ν i).1 μ1 n p → frG μ μ1 → κ 5 [.ref kW, .int (nI pl), .int lo, .int (nI (rnS n p pl lo ν i).2), .int (nI i)] [] μ1) ?_ (fun i hi ih => ?_) μ hR fr.rf
  · intro μ1 r1 f1
    refine B_X10_run_5 hk (pk_le p p (fun _ => ⟨r1.c (ag_si rfl).c, ⟨?_, ?_⟩, si_at _ _ _ _⟩) (fun w => absurd w (by omega)) r1.2.1.1)
    · exact fr_si rfl f1.h.1
    · intro j hj
      rw [si_nj _ _ _ hj]
      exact f1.h.2 j hj
  · intro μ1 r1 f1
    have es : rnS n p pl lo ν (i + 1) = if nI i = lo then rnS n p pl lo ν i else ((tripN n p i pl 2 (rnS n p pl lo ν i).1).1, (rnS n p pl lo ν i).2 + (tripN n p i pl 2 (rnS n p pl lo ν i).1).2.1) := rfl
    rw [es] at ih
    refine B_X10_run_5 hk (pk_le p i (fun w => absurd w (by omega)) (fun _ => ⟨fun w => ?_, fun w => ?_⟩) r1.2.1.1)
    · rw [if_pos w] at ih
      rw [nI_1]
      exact ih μ1 r1 f1
    · rw [if_neg w] at ih
      refine ⟨_, S_trip (by omega) _ μ1 r1 hi hpl, fun y3 μ4 r4 => ?_⟩
      obtain ⟨e4, r4', f4⟩ := r4
      cases e4
      rw [nI_1, nI_add]
      exact ih μ4 r4' (f1.tr f4)
/-- WORTH that is DONE -/
def woN (ν : m2M) (q : Nat) : Nat := (ν.1 kM_worth q).toNatClampNeg
def wdN (ν : m2M) : Nat → Nat
  | 0 => 0
  | i + 1 => wdN ν i + (if ν.1 kM_isDone i = 0 then 0 else woN ν i)
theorem RLn.wo {ν μ : m2M} {n p q : Nat} (h : RLn ν μ n p) (hq : q < p) : ν.1 kM_worth q = nI (woN ν q) ∧ woN ν q < 100 := in_n (h.2.1.2.2.2 q hq).2.2.2.2.1 (by decide)
theorem wdN_le {ν μ : m2M} {n p : Nat} (h : RLn ν μ n p) : ∀ i, i ≤ p → wdN ν i ≤ 100 * i
  | 0, _ => Nat.le_refl 0
  | i + 1, hi => by
    have := wdN_le h i (by omega)
    have := (h.wo (q := i) (by omega)).2
    unfold wdN
    split <;> omega
theorem S_worthDone {D n p : Nat} (ν μ : m2M) (hR : RLn ν μ n p) : m2_MT D yX6_worthDone cX6_worthDone 3 (some .int) [.ref kP] μ (fun r μ' => r = some (.int (nI (wdN ν p))) ∧ μ' = μ) := by
  have hp := hR.p8
  refine m2_MT.intro (ls := [.ref kP, .null, .null]) (by decide +kernel) rfl (ble rfl) (fun κ hk => ?_)
  refine B_X6_worthDone_0 hk ?_
  refine dn (n := p) (G := fun i => κ 4 [.ref kP, .int (nI (wdN ν i)), .int (nI i)] [] μ) ?_ (fun i hi ih => ?_)
  · exact B_X6_worthDone_4 hk (pk_le p p (fun _ => ⟨rfl, rfl⟩) (fun w => absurd w (by omega)) hR.2.1.1)
  · obtain ⟨⟨_, _, _, a4, _, _, _, a8⟩, _⟩ := hR.2.1.2.2.2 i hi
    refine B_X6_worthDone_4 hk (pk_le p i (fun w => absurd w (by omega)) (fun _ => ⟨vp_in_nI (by omega) (by decide), ?_⟩) hR.2.1.1)
    rw [nI_clamp (by omega), a8, a4, (hR.wo hi).1, nI_add, nI_1]
    unfold wdN at ih
    refine ⟨fun w => ?_, fun w => ?_⟩
    · rw [if_pos w] at ih
      rw [Int32.add_zero]
      exact ih
    · rw [if_neg w] at ih
      exact ih
theorem S_busyBits {D n p : Nat} (hD : 1 ≤ D) (ν μ : m2M) (hR : RLn ν μ n p) : m2_MT D yX6_busyBits cX6_busyBits 3 (some .int) [.ref kP] μ (fun r μ' => r = some (.int (bts (fun q => !decide (gN ν q = -1)) p)) ∧ μ' = μ) := by
  obtain ⟨D, rfl⟩ : ∃ E, D = E + 1 := ⟨D - 1, by omega⟩
  have hp := hR.p8
  refine m2_MT.intro (ls := [.ref kP, .null, .null]) (by decide +kernel) rfl (ble rfl) (fun κ hk => ?_)
  refine B_X6_busyBits_0 hk ?_
  refine dn (n := p) (G := fun i => κ 4 [.ref kP, .int (bts (fun q => !decide (gN ν q = -1)) i), .int (nI i)] [] μ) ?_ (fun i hi ih => ?_)
  · exact B_X6_busyBits_4 hk (Nat.zero_le _) (pk_le p p (fun _ => ⟨rfl, rfl⟩) (fun w => absurd w (by omega)) hR.2.1.1)
  · refine B_X6_busyBits_4 hk (Nat.zero_le _) (pk_le p i (fun w => absurd w (by omega)) (fun _ => ⟨vp_in_nI (by omega) (by decide), ?_⟩) hR.2.1.1)
    rw [nI_1]
    have es : bts (fun q => !decide (gN ν q = -1)) (i + 1) = bts (fun q => !decide (gN ν q = -1)) i ||| (if (!decide (gN ν i = -1)) = true then (1 : Int32) <<< (nI i &&& 31) else 0) := rfl
    rw [es] at ih
    by_cases w : gN ν i = -1
    · rw [if_neg (by simp [w])] at ih
      rw [if_neg (fun z => (hR.busy hi).mp z w)]
      rw [show (0 : Int32) <<< (nI i &&& 31) = 0 from by simp]
      exact ih
    · rw [if_pos (by simp [w])] at ih
      rw [if_pos ((hR.busy hi).mpr w)]
      exact ih
def dnB (ν : m2M) (q : Nat) : Bool := !decide (ν.1 kM_isDone q = 0)
def dayR (F : m2M) (p t : Nat) : List Int64 := [(nI (wdN F p)).toInt64, (nI t).toInt64, (bts (fun q => !decide (gN F q = -1)) p).toInt64]
theorem S_tellDay {D n p t : Nat} (hD : 3 ≤ D) (ν μ : m2M) (hR : RLn ν μ n p) (hW : μ.1 kW 7 = nI t) : m2_MT D yX11_tellDay cX11_tellDay 1 (some .int) [.ref kC] μ (fun r μ' => r = some (.int (nI (cnb (dnB ν) p))) ∧ rC (dayR ν p t) μ' ∧ twC μ μ') := by
  obtain ⟨D, rfl⟩ : ∃ E, D = E + 1 := ⟨D - 1, by omega⟩
  have hp := hR.p8
  have tR : ∀ μ', twC μ μ' → RLn ν μ' n p ∨ True := fun _ _ => Or.inr trivial
  -- what the class's people say stays
  have cl : ∀ μ', twC μ μ' → (∀ c, c ≠ kC → μ'.1 c = μ.1 c) := by
    rintro μ' ⟨g, z, rfl⟩ c hc
    exact si_nc _ _ _ hc
  have wd : ∀ μ', twC μ μ' → m2_MT D yX6_worthDone cX6_worthDone 3 (some .int) [.ref kP] μ' (fun r μ2 => r = some (.int (nI (wdN ν p))) ∧ μ2 = μ') := by
    intro μ' ht
    have e := cl μ' ht
    refine m2_MT.intro (ls := [.ref kP, .null, .null]) (by decide +kernel) rfl (ble rfl) (fun κ hk => ?_)
    refine B_X6_worthDone_0 hk ?_
    refine dn (n := p) (G := fun i => κ 4 [.ref kP, .int (nI (wdN ν i)), .int (nI i)] [] μ') ?_ (fun i hi ih => ?_)
    · exact B_X6_worthDone_4 hk (pk_le p p (fun _ => ⟨rfl, rfl⟩) (fun w => absurd w (by omega)) (by rw [e kP (by decide)]; exact hR.2.1.1))
    · obtain ⟨⟨_, _, _, a4, _, _, _, a8⟩, _⟩ := hR.2.1.2.2.2 i hi
      refine B_X6_worthDone_4 hk (pk_le p i (fun w => absurd w (by omega)) (fun _ => ⟨vp_in_nI (by omega) (by decide), ?_⟩) (by rw [e kP (by decide)]; exact hR.2.1.1))
      rw [nI_clamp (by omega), e kP_done (by decide), e kP_worth (by decide), a8, a4, (hR.wo hi).1, nI_add, nI_1]
      unfold wdN at ih
      refine ⟨fun w => ?_, fun w => ?_⟩
      · rw [if_pos w] at ih
        rw [Int32.add_zero]
        exact ih
      · rw [if_neg w] at ih
        exact ih
  have bb : ∀ μ', twC μ μ' → m2_MT D yX6_busyBits cX6_busyBits 3 (some .int) [.ref kP] μ' (fun r μ2 => r = some (.int (bts (fun q => !decide (gN ν q = -1)) p)) ∧ μ2 = μ') := by
    intro μ' ht
    have e := cl μ' ht
    obtain ⟨D, rfl⟩ : ∃ E, D = E + 1 := ⟨D - 1, by omega⟩
    have ib : ∀ i, fX6_isBusy (nI i) μ' = fX6_isBusy (nI i) μ := by
      intro i
      unfold fX6_isBusy
      rw [e kP_errand (by decide), e kP_done (by decide)]
    refine m2_MT.intro (ls := [.ref kP, .null, .null]) (by decide +kernel) rfl (ble rfl) (fun κ hk => ?_)
    refine B_X6_busyBits_0 hk ?_
    refine dn (n := p) (G := fun i => κ 4 [.ref kP, .int (bts (fun q => !decide (gN ν q = -1)) i), .int (nI i)] [] μ') ?_ (fun i hi ih => ?_)
    · exact B_X6_busyBits_4 hk (Nat.zero_le _) (pk_le p p (fun _ => ⟨rfl, rfl⟩) (fun w => absurd w (by omega)) (by rw [e kP (by decide)]; exact hR.2.1.1))
    · refine B_X6_busyBits_4 hk (Nat.zero_le _) (pk_le p i (fun w => absurd w (by omega)) (fun _ => ⟨vp_in_nI (by omega) (by decide), ?_⟩) (by rw [e kP (by decide)]; exact hR.2.1.1))
      rw [nI_1, ib]
      have es : bts (fun q => !decide (gN ν q = -1)) (i + 1) = bts (fun q => !decide (gN ν q = -1)) i ||| (if (!decide (gN ν i = -1)) = true then (1 : Int32) <<< (nI i &&& 31) else 0) := rfl
      rw [es] at ih
      by_cases w : gN ν i = -1
      · rw [if_neg (by simp [w])] at ih
        rw [if_neg (fun z => (hR.busy hi).mp z w)]
        rw [show (0 : Int32) <<< (nI i &&& 31) = 0 from by simp]
        exact ih
      · rw [if_pos (by simp [w])] at ih
        rw [if_pos ((hR.busy hi).mpr w)]
        exact ih
  refine m2_MT.intro (ls := [.ref kC]) (by decide +kernel) rfl (ble rfl) (fun κ hk => ?_)
  refine B_X11_tellDay_0 hk (Nat.zero_le _) ⟨_, wd _ twC.i, fun y1 μ2 r2 => ?_⟩
  obtain ⟨e1, e2⟩ := r2
  cases e1
  subst e2
  refine ⟨_, S_tellC _ _ rC.i (by decide), fun μ7 r7 => ?_⟩
  have t7 := twC.i.tr r7.2
  rw [cl μ7 t7 kW (by decide), hW]
  refine ⟨_, S_tellC _ _ r7.1 (ble rfl), fun μ12 r12 => ?_⟩
  have t12 := t7.tr r12.2
  refine ⟨_, bb _ t12, fun y16 μ17 r17 => ?_⟩
  obtain ⟨e16, e17⟩ := r17
  cases e16
  subst e17
  refine ⟨_, S_tellC _ _ r12.1 (ble rfl), fun μ22 r22 => ?_⟩
  have t22 := t12.tr r22.2
  have e := cl μ22 t22
  refine ⟨_, S_doneBits (by omega) μ22 (by rw [e kP (by decide)]; exact hR.2.1.1) hp, fun y26 μ27 r27 => ?_⟩
  obtain ⟨e26, e27⟩ := r27
  cases e26
  subst e27
  refine ⟨?_, r22.1, t22⟩
  rw [bitC (by omega), e kP_done (by decide)]
  refine congrArg (fun x => some (Value.int (nI x))) (cnb_congr (fun i hi => ?_))
  unfold dnB
  rw [(hR.2.1.2.2.2 i hi).1.2.2.2.2.2.2.2]
/-- the reference's -/
def isD (c : Nat) : Bool := isQ c || (c == kM_left) || (c == kM_where) || (c == kM_wasThere) || (c == kM_isDone)
def frD (μ μ' : m2M) : Prop := fr isD μ μ' ∧ ∀ j, qj j = false → j ≠ 44 → j ≠ 45 → μ'.1 kM j = μ.1 kM j
theorem frD.rf {μ : m2M} : frD μ μ := ⟨fr.rf, fun _ _ _ _ => rfl⟩
theorem frD.tr {μ ν ρ : m2M} (h1 : frD μ ν) (h2 : frD ν ρ) : frD μ ρ := ⟨h1.1.tr h2.1, fun j a b c => (h2.2 j a b c).trans (h1.2 j a b c)⟩
theorem jM.d {μ μ' : m2M} (h : jM μ μ') : frD μ μ' := ⟨fr.mo h.2.1 (fun c hc => by unfold isD at hc; simp only [Bool.or_eq_false_iff] at hc; exact hc.1.1.1.1), fun j a _ _ => h.2.2 j a⟩
theorem frD_gG {μ ρ : m2M} {q d : Nat} (h : frD ρ μ) : frD ρ (gG μ q d) := by
  refine ⟨?_, fun j a b c => ?_⟩
  · refine fr_si rfl (fr_si rfl (fr_si rfl ?_))
    unfold gS
    by_cases z : μ.1 kM_isStranger q = 0
    · rw [if_pos z]; exact fr_si rfl h.1
    · rw [if_neg z]; exact h.1
  · rw [gG_at (by decide) (by decide) (by decide) (by decide)]
    exact h.2 j a b c
theorem frD_si {μ ρ : m2M} {j : Nat} {x : Int32} (h : frD ρ μ) (hj : j = 44 ∨ j = 45) : frD ρ (m2_si μ kM j x) := ⟨fr_si rfl h.1, fun i a b c => by rw [si_nj _ _ _ (by omega)]; exact h.2 i a b c⟩
theorem isD_M {c : Nat} (h : isD c = true) : isM c = true := by
  unfold isD isQ at h
  simp only [Bool.or_eq_true, beq_iff_eq] at h
  rcases h with ((((((((h | h) | h) | h) | h) | h) | h) | h) | h) | h <;> subst h <;> rfl
theorem frD.m {μ μ' : m2M} (h : frD μ μ') : frM μ μ' := fr.mo h.1 (fun c hc => by
  cases e : isD c with
  | false => rfl
  | true => rw [isD_M e] at hc; cases hc)
theorem S_dayOf {D n p q pl : Nat} (hD : 406 ≤ D) (ν μ μ0 : m2M) (hR : RLn ν μ0 n p) (hv : vM ν μ) (hq : q < p) (hpl : pl < 4) : m2_MT D yX12_dayOf cX12_dayOf 5 none [.ref kM, .int (nI q), .int (nI pl)] μ (fun _ μ' => vM (tripN n p q pl 2 ν).1 μ' ∧ frD μ μ' ∧ μ'.1 kM 44 = μ.1 kM 44 + nI (tripN n p q pl 2 ν).2.1 ∧ μ'.1 kM 45 = (if (tripN n p q pl 2 ν).2.2 = true then μ.1 kM 45 ||| ((1 : Int32) <<< (nI q &&& 31)) else μ.1 kM 45)) := by
  obtain ⟨D, rfl⟩ : ∃ E, D = E + 1 := ⟨D - 1, by omega⟩
  have hp := hR.p8
  have tr : ∀ (k : Nat) (ν1 : m2M), tripN n p q pl (k + 1) ν1 = if gN ν1 q = -1 then (ν1, 0, false) else match lgO ν1 n p q pl with
    | none => (ν1, 0, true)
    | some l => ((tripN n p q pl k (gW q l ν1)).1, l.length + (tripN n p q pl k (gW q l ν1)).2.1, (tripN n p q pl k (gW q l ν1)).2.2) := fun _ _ => rfl
  generalize hT : tripN n p q pl 2 ν = T
  refine m2_MT.intro (ls := [.ref kM, .int (nI q), .int (nI pl), .null, .null]) (by decide +kernel) rfl (ble rfl) (fun κ hk => ?_)
  have key : ∀ (k s : Nat) (ν1 μ0 μ1 : m2M), RLn ν1 μ0 n p → rkN ν1 q ≤ k → vM ν1 μ1 → frD μ μ1 → μ1.1 kM 44 = μ.1 kM 44 + nI s → μ1.1 kM 45 = μ.1 kM 45 → (tripN n p q pl k ν1).1 = T.1 → s + (tripN n p q pl k ν1).2.1 = T.2.1 → (tripN n p q pl k ν1).2.2 = T.2.2 → κ 0 [.ref kM, .int (nI q), .int (nI pl), .null, .null] [] μ1 := by
    intro k
    induction k with
    | zero =>
      intro s ν1 μ0 μ1 r1 hrk v1 f1 c1 c2 e1 e2 e3
      have hb : gN ν1 q = -1 := by
        apply Classical.byContradiction
        intro z
        unfold rkN at hrk
        rw [if_neg z] at hrk
        split at hrk <;> omega
      have eN : fX12_nextOf (nI q) μ1 = gN ν1 q := vM_gN v1
      refine B_X12_dayOf_0 hk (Nat.zero_le _) ⟨vp_in_nI (by omega) (by decide), fun _ => ⟨?_, f1, ?_, ?_⟩, fun w => absurd (eN.trans hb) w⟩
      · rw [← e1]; exact v1
      · rw [← e2]; exact c1
      · rw [← e3]; exact c2
    | succ k ih =>
      intro s ν1 μ0 μ1 r1 hrk v1 f1 c1 c2 e1 e2 e3
      have eN : fX12_nextOf (nI q) μ1 = gN ν1 q := vM_gN v1
      rw [tr] at e1 e2 e3
      by_cases hb : gN ν1 q = -1
      · rw [if_pos hb] at e1 e2 e3
        refine B_X12_dayOf_0 hk (Nat.zero_le _) ⟨vp_in_nI (by omega) (by decide), fun _ => ⟨?_, f1, ?_, ?_⟩, fun w => absurd (eN.trans hb) w⟩
        · rw [← e1]; exact v1
        · rw [← e2]; exact c1
        · rw [← e3]; exact c2
      · rw [if_neg hb] at e1 e2 e3
        obtain ⟨eg, hg⟩ := r1.gn hq hb
        refine B_X12_dayOf_0 hk (Nat.zero_le _) ⟨vp_in_nI (by omega) (by decide), fun w => absurd (eN.symm.trans w) hb, fun _ => ?_⟩
        rw [eN, eg]
        refine ⟨_, S_findPlanned (by omega) ν1 μ1 μ0 r1 v1 hq hpl hg, fun y10 μ11 r11 => ?_⟩
        obtain ⟨j11, m11⟩ := r11
        have v11 := j11.v v1
        have elg : wyP ν1 n p q pl (gnN ν1 q) = lgO ν1 n p q pl := rfl
        rw [elg] at m11
        have c11 : μ11.1 kM 44 = μ.1 kM 44 + nI s := by rw [j11.2.2 44 rfl]; exact c1
        have c11' : μ11.1 kM 45 = μ.1 kM 45 := by rw [j11.2.2 45 rfl]; exact c2
        rcases e : lgO ν1 n p q pl with _ | l
        · rw [e] at m11 e1 e2 e3
          have m11 : some (Value.int y10) = some (.int 0) := m11
          cases m11
          refine ⟨fun w => absurd rfl w, fun _ => ⟨?_, frD_si (f1.tr j11.d) (Or.inr rfl), ?_, ?_⟩⟩
          · rw [← e1]
            exact vM_si rfl v11
          · rw [← e2, si_nj _ _ _ (by decide)]; exact c11
          · rw [← e3, si_at, c11']
            rfl
        · rw [e] at m11 e1 e2 e3
          obtain ⟨xm1, xm2, xm3⟩ := m11
          cases xm1
          obtain ⟨w1, w2⟩ := wyP_ok r1 hq hg (pl := pl) (l := l) e
          refine ⟨fun _ => ?_, fun w => absurd w (by decide)⟩
          rw [xm2]
          have hrk2 := leg_rk r1 hq hb w1
          have walk : ∀ (l' : List Nat) (i : Nat) (ν2 μ0 μ2 : m2M), l.drop i = l' → i ≤ l.length → wkS ν2 n q l' (gnN ν1 q) → RLn ν2 μ0 n p → vM ν2 μ2 → frD μ μ2 → μ2.1 kM 44 = μ.1 kM 44 + nI s → μ2.1 kM 45 = μ.1 kM 45 → gW q l' ν2 = gW q l ν1 → (∀ j d, l[j]? = some d → μ2.1 kM_way j = nI d) → κ 44 [.ref kM, .int (nI q), .int (nI pl), .int (nI l.length), .int (nI i)] [] μ2 := by
            intro l'
            induction l' with
            | nil =>
              intro i ν2 μ0 μ2 hl hi hs hR2 v2 f2 d1 d2 eW hw
              have : l.length ≤ i := List.drop_eq_nil_iff.mp hl
              have eW : ν2 = gW q l ν1 := eW
              refine B_X12_dayOf_44 hk (pk_le l.length i (fun _ => ?_) (fun w => absurd w (by omega)))
              subst eW
              refine ih (s + l.length) (gW q l ν1) μ0 _ hR2 (by omega) (vM_si rfl v2) (frD_si f2 (Or.inl rfl)) ?_ ?_ e1 ?_ e3
              · rw [si_at, d1, Int32.add_assoc, nI_add]
              · rw [si_nj _ _ _ (by decide)]; exact d2
              · rw [← e2]
                show _ = s + (l.length + _)
                omega
            | cons d l' ih2 =>
              intro i ν2 μ0 μ2 hl hi hs hR2 v2 f2 d1 d2 eW hw
              have hlt : i < l.length := by
                apply Classical.byContradiction
                intro w
                rw [List.drop_eq_nil_iff.mpr (by omega)] at hl
                cases hl
              have e0 : l[i]? = some d := by
                have := congrArg (fun x => x[0]?) hl
                simpa using this
              have e1' : l.drop (i + 1) = l' := by
                have := congrArg List.tail hl
                simpa using this
              obtain ⟨s1, s2, s3, s4⟩ := hs.step hR2 hq
              refine B_X12_dayOf_44 hk (pk_le l.length i (fun w => absurd w (by omega)) (fun _ => ⟨vp_in_nI (by omega) (by decide), ?_⟩))
              rw [nI_clamp (by omega), hw i d e0, nI_1]
              refine ⟨_, S_goStep (by omega) ν2 ν2 μ0 μ2 hR2 hq hs (fun c _ => rfl) v2, fun μ5 e5 => ?_⟩
              subst e5
              have gk : ∀ j, (gG μ2 q d).1 kM j = μ2.1 kM j := fun j => by rw [gG_at (by decide) (by decide) (by decide) (by decide)]
              refine ih2 (i + 1) (gG ν2 q d) (cG μ0 q d) (gG μ2 q d) e1' (by omega) s4 (hR2.go hq s1 s2 (fun _ => s3)) (vM_gG v2) (frD_gG f2) ((gk 44).trans d1) ((gk 45).trans d2) eW (fun j d' z => ?_)
              rw [gG_at (by decide) (by decide) (by decide) (by decide)]
              exact hw j d' z
          have kk := walk l 0 ν1 μ0 μ11 rfl (Nat.zero_le _) w1 r1 v11 (f1.tr j11.d) c11 c11' rfl xm3
          rw [nI_0] at kk
          exact kk
  refine key 2 0 ν μ0 μ hR (rkN_le _ _) hv frD.rf ?_ rfl (by rw [hT]) (by rw [hT, Nat.zero_add]) (by rw [hT])
  rw [nI_0, Int32.add_zero]
def frA (μ μ' : m2M) : Prop := fr isD μ μ' ∧ ∀ j, qj j = false → (j < 42 ∨ 45 < j) → μ'.1 kM j = μ.1 kM j
theorem frA.m {μ μ' : m2M} (h : frA μ μ') : frM μ μ' := fr.mo h.1 (fun c hc => by
  cases e : isD c with
  | false => rfl
  | true => rw [isD_M e] at hc; cases hc)
theorem frD.a {μ μ' : m2M} (h : frD μ μ') : frA μ μ' := ⟨h.1, fun j a b => h.2 j a (by omega) (by omega)⟩
theorem frA.tr {μ ν ρ : m2M} (h1 : frA μ ν) (h2 : frA ν ρ) : frA μ ρ := ⟨h1.1.tr h2.1, fun j a b => (h2.2 j a b).trans (h1.2 j a b)⟩
theorem frA_si {μ ρ : m2M} {j : Nat} {x : Int32} (h : frA ρ μ) (hj : 42 ≤ j ∧ j ≤ 45) : frA ρ (m2_si μ kM j x) := ⟨fr_si rfl h.1, fun i a b => by rw [si_nj _ _ _ (by omega)]; exact h.2 i a b⟩
theorem S_endDay {D n p : Nat} (ν μ μ0 : m2M) (hR : RLn ν μ0 n p) (hv : vM ν μ) : m2_MT D yX12_endDay cX12_endDay 2 none [.ref kM] μ (fun _ μ' => μ' = m2_si (m2_si μ kM 42 (nI (cnb (dnB ν) p))) kM 43 (nI (wdN ν p))) := by
  have hp := hR.p8
  refine m2_MT.intro (ls := [.ref kM, .null]) (by decide +kernel) rfl (ble rfl) (fun κ hk => ?_)
  refine B_X12_endDay_0 hk ?_
  have sw : ∀ x y x' y' : Int32, m2_si (m2_si (m2_si (m2_si μ kM 42 x) kM 43 y) kM 42 x') kM 43 y' = m2_si (m2_si μ kM 42 x') kM 43 y' := by
    intro x y x' y'
    rw [si_swap _ kM (j := 43) (j' := 42) (by decide), m2_si_si, m2_si_si]
  have h7 : ∀ x y : Int32, (m2_si (m2_si μ kM 42 x) kM 43 y).1 kM 7 = nI p := fun x y => (hv.1 kM 7 rfl rfl).trans hR.2.1.2.1
  refine dn (n := p) (G := fun i => κ 12 [.ref kM, .int (nI i)] [] (m2_si (m2_si μ kM 42 (nI (cnb (dnB ν) i))) kM 43 (nI (wdN ν i)))) ?_ (fun i hi ih => ?_)
  · exact B_X12_endDay_12 hk (pk_le p p (fun _ => rfl) (fun w => absurd w (by omega)) (h7 _ _))
  · refine B_X12_endDay_12 hk (pk_le p i (fun w => absurd w (by omega)) (fun _ => ⟨vp_in_nI (by omega) (by decide), ?_⟩) (h7 _ _))
    have e1 : (m2_si (m2_si μ kM 42 (nI (cnb (dnB ν) i))) kM 43 (nI (wdN ν i))).1 kM_isDone i = ν.1 kM_isDone i := hv.1 kM_isDone i rfl rfl
    have e2 : (m2_si (m2_si μ kM 42 (nI (cnb (dnB ν) i))) kM 43 (nI (wdN ν i))).1 kM_worth i = nI (woN ν i) := (hv.1 kM_worth i rfl rfl).trans (hR.wo hi).1
    have e3 : (m2_si (m2_si μ kM 42 (nI (cnb (dnB ν) i))) kM 43 (nI (wdN ν i))).1 kM 42 = nI (cnb (dnB ν) i) := rfl
    have e4 : (m2_si (m2_si μ kM 42 (nI (cnb (dnB ν) i))) kM 43 (nI (wdN ν i))).1 kM 43 = nI (wdN ν i) := rfl
    rw [nI_clamp (by omega), e1, e2, e3, e4, sw, sw, nI_1, nI_add]
    have c1 : cnb (dnB ν) (i + 1) = cnb (dnB ν) i + (if dnB ν i = true then 1 else 0) := rfl
    have c2 : wdN ν (i + 1) = wdN ν i + (if ν.1 kM_isDone i = 0 then 0 else woN ν i) := rfl
    rw [c1, c2] at ih
    refine ⟨fun w => ?_, fun w => ?_⟩
    · rw [if_pos w, if_neg (by unfold dnB; simp [w])] at ih
      rw [if_pos w, Int32.add_zero, Int32.add_zero]
      exact ih
    · rw [if_neg w, if_pos (by unfold dnB; simp [w])] at ih
      rw [if_neg w, nI_1]
      exact ih
theorem S_goAll {D n p pl : Nat} (hD : 407 ≤ D) (lo : Int32) (ν μ μ0 : m2M) (hR : RLn ν μ0 n p) (hv : vM ν μ) (hpl : pl < 4) : m2_MT D yX12_goAll cX12_goAll 4 none [.ref kM, .int (nI pl), .int lo] μ (fun _ μ' => vM (rnS n p pl lo ν p).1 μ' ∧ frA μ μ' ∧ μ'.1 kM 42 = nI (cnb (dnB (rnS n p pl lo ν p).1) p) ∧ μ'.1 kM 43 = nI (wdN (rnS n p pl lo ν p).1 p) ∧ μ'.1 kM 44 = nI (rnS n p pl lo ν p).2 ∧ μ'.1 kM 45 = bts (cnF n p pl lo ν) p) := by
  obtain ⟨D, rfl⟩ : ∃ E, D = E + 1 := ⟨D - 1, by omega⟩
  have hp := hR.p8
  refine m2_MT.intro (ls := [.ref kM, .int (nI pl), .int lo, .null]) (by decide +kernel) rfl (ble rfl) (fun κ hk => ?_)
  refine B_X12_goAll_0 hk ⟨fun _ μ' => μ' = m2_si (m2_si μ kM 44 0) kM 45 0, ?_, fun μ2 e2 => ?_⟩
  · refine m2_MT.intro (ls := [.ref kM]) (by decide +kernel) rfl (ble rfl) (fun κ hk => ?_)
    exact B_X12_beginDay_0 hk rfl
  subst e2
  refine dn (n := p) (G := fun i => ∀ μ1, vM (rnS n p pl lo ν i).1 μ1 → frA μ μ1 → μ1.1 kM 44 = nI (rnS n p pl lo ν i).2 → μ1.1 kM 45 = bts (cnF n p pl lo ν) i → κ 6 [.ref kM, .int (nI pl), .int lo, .int (nI i)] [] μ1) ?_ (fun i hi ih => ?_) _ (vM_si rfl (vM_si rfl hv)) (frA_si (frA_si frD.rf.a (by omega)) (by omega)) rfl rfl
  · intro μ1 v1 f1 c1 c2
    obtain ⟨μ', h'⟩ := rnS_R (pl := pl) (lo := lo) hR p (Nat.le_refl p)
    refine B_X12_goAll_6 hk (pk_le p p (fun _ => ?_) (fun w => absurd w (by omega)) ((v1.1 kM 7 rfl rfl).trans h'.2.1.2.1))
    refine ⟨_, S_endDay _ μ1 μ' h' v1, fun μ3 e3 => ?_⟩
    subst e3
    refine ⟨vM_si rfl (vM_si rfl v1), frA_si (frA_si f1 (by omega)) (by omega), rfl, rfl, ?_, ?_⟩
    · rw [si_nj _ _ _ (by decide), si_nj _ _ _ (by decide)]; exact c1
    · rw [si_nj _ _ _ (by decide), si_nj _ _ _ (by decide)]; exact c2
  · intro μ1 v1 f1 c1 c2
    obtain ⟨μ', h'⟩ := rnS_R (pl := pl) (lo := lo) hR i (by omega)
    have es : rnS n p pl lo ν (i + 1) = if nI i = lo then rnS n p pl lo ν i else ((tripN n p i pl 2 (rnS n p pl lo ν i).1).1, (rnS n p pl lo ν i).2 + (tripN n p i pl 2 (rnS n p pl lo ν i).1).2.1) := rfl
    have eb : bts (cnF n p pl lo ν) (i + 1) = bts (cnF n p pl lo ν) i ||| (if cnF n p pl lo ν i = true then (1 : Int32) <<< (nI i &&& 31) else 0) := rfl
    rw [es, eb] at ih
    refine B_X12_goAll_6 hk (pk_le p i (fun w => absurd w (by omega)) (fun _ => ⟨fun w => ?_, fun w => ?_⟩) ((v1.1 kM 7 rfl rfl).trans h'.2.1.2.1))
    · rw [if_pos w, if_neg (by unfold cnF; simp [w]), Int32.or_zero] at ih
      rw [nI_1]
      exact ih μ1 v1 f1 c1 c2
    · rw [if_neg w] at ih
      have ec : cnF n p pl lo ν i = (tripN n p i pl 2 (rnS n p pl lo ν i).1).2.2 := by unfold cnF; simp [w]
      rw [ec] at ih
      refine ⟨_, S_dayOf (by omega) _ μ1 μ' h' v1 hi hpl, fun μ9 r9 => ?_⟩
      obtain ⟨v9, f9, d1, d2⟩ := r9
      rw [nI_1]
      refine ih μ9 v9 (f1.tr f9.a) (by rw [d1, c1, nI_add]) ?_
      rw [d2, c2]
      by_cases z : (tripN n p i pl 2 (rnS n p pl lo ν i).1).2.2 = true
      · rw [if_pos z, if_pos z]
      · rw [if_neg z, if_neg z, Int32.or_zero]
