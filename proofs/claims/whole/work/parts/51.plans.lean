/-! PLANS: the costs, the ways, one who walks -/
theorem fr_j {S : Nat → Bool} {μ μ' : m2M} (h : fr S μ μ') (hS : ∀ c, S c = true → (∀ j, scr c j = true) ∧ Nat.ble c 64 = true) : jC μ μ' := by
  have s1 : S kC_row = false := by
    cases e : S kC_row with
    | false => rfl
    | true => exact absurd ((hS _ e).1 0) (by decide)
  have s2 : S kM_row = false := by
    cases e : S kM_row with
    | false => rfl
    | true => exact absurd (hS _ e).2 (by decide)
  refine ⟨⟨fun c j hs => ?_, fun j => by rw [(h kC_row s1).2], fun j => by rw [(h kM_row s2).2]⟩, fr.mo h (fun c hc => ?_)⟩
  · cases e : S c with
    | false => rw [(h c e).1]
    | true => rw [(hS c e).1 j] at hs; cases hs
  · cases e : S c with
    | false => rfl
    | true => have := (hS c e).2; rw [show Nat.ble c 64 = false from hc] at this; cases this
def pU (ν : m2M) (pl d : Nat) : Bool := if pl = 2 then decide ((ν.1 kM 17).toNatClampNeg < hL ν d) else hO ν d
def pS (ν : m2M) (n p q pl d : Nat) : Nat := if pl = 1 then 61 - hL ν d else (prV ν n p q d).toNatClampNeg
def pC (ν : m2M) (n p q pl d : Nat) : Nat := if pl = 0 ∨ pl = 2 then (if pU ν pl d = true then 1 else 0) else (if hO ν d = true then pS ν n p q pl d * 16 + 1 else 0)
def pC' (ν : m2M) (n p q pl d : Nat) : Nat := if pl = 0 ∨ pl = 2 then (if pU ν pl d = true then 1001 else 0) else (if hO ν d = true then pS ν n p q pl d * 1000 + 1 else 0)
def wyP (ν : m2M) (n p q pl goal : Nat) : Option (List Nat) := wy (hA ν) (hB ν) (hT ν) (pC ν n p q pl) n 268435456 (hW ν q) goal
theorem pS_le (ν : m2M) (n p q pl d : Nat) : pS ν n p q pl d ≤ 9999 := by
  unfold pS
  by_cases z : pl = 1
  · rw [if_pos z]; omega
  · rw [if_neg z]
    obtain ⟨a, _, h2, e⟩ := prV_in ν n p q d
    rw [e, nI_clamp (by omega)]
    exact h2
theorem pC_le (ν : m2M) (n p q pl d : Nat) : pC ν n p q pl d ≤ 200000 := by
  unfold pC
  have := pS_le ν n p q pl d
  split <;> split <;> omega
theorem wyP_eq {ν μ : m2M} {n p q pl g : Nat} (hR : RLn ν μ n p) (hq : q < p) (hg : g < 12) : wyP ν n p q pl g = wy (hA ν) (hB ν) (hT ν) (pC' ν n p q pl) n 1125899906842624 (hW ν q) g := by
  unfold wyP
  by_cases z : pl = 0 ∨ pl = 2
  · rw [show pC ν n p q pl = (fun d => if pU ν pl d = true then 1 else 0) from funext fun d => if_pos z, show pC' ν n p q pl = (fun d => if pU ν pl d = true then 1001 else 0) from funext fun d => if_pos z]
    exact wy_open hR.N hR.AB (hR.hw q hq).2 hg
  · rw [show pC ν n p q pl = (fun d => if hO ν d = true then pS ν n p q pl d * 16 + 1 else 0) from funext fun d => if_neg z, show pC' ν n p q pl = (fun d => if hO ν d = true then pS ν n p q pl d * 1000 + 1 else 0) from funext fun d => if_neg z]
    exact wy_plan hR.N hR.AB (hR.hw q hq).2 hg (fun d _ => pS_le ν n p q pl d)
theorem wk_mono {A B : Nat → Nat} {T : Nat → Bool} {C C' : Nat → Nat} {n : Nat} (h : ∀ d, d < n → C d ≠ 0 → C' d ≠ 0) : ∀ {l : List Nat} {u v : Nat}, wk A B T C n u l v → wk A B T C' n u l v
  | [], _, _, q => q
  | d :: l, u, v, ⟨h1, h2, h3⟩ => ⟨h1, h d h1 h2, by
      rcases h3 with ⟨h4, h5⟩ | ⟨h4, h5, h6, h7⟩
      · exact Or.inl ⟨h4, wk_mono h h5⟩
      · exact Or.inr ⟨h4, h5, h6, wk_mono h h7⟩⟩
theorem pC_open {ν : m2M} {n p q pl d : Nat} (h : pC ν n p q pl d ≠ 0) : hO ν d = true := by
  unfold pC pU at h
  by_cases z : pl = 0 ∨ pl = 2
  · rw [if_pos z] at h
    by_cases z2 : pl = 2
    · rw [if_pos z2] at h
      by_cases z3 : (ν.1 kM 17).toNatClampNeg < hL ν d
      · unfold hO; exact decide_eq_true (by omega)
      · rw [if_neg (by simp [z3])] at h; exact absurd rfl h
    · rw [if_neg z2] at h
      by_cases z3 : hO ν d = true
      · exact z3
      · rw [if_neg z3] at h; exact absurd rfl h
  · rw [if_neg z] at h
    by_cases z3 : hO ν d = true
    · exact z3
    · rw [if_neg z3] at h; exact absurd rfl h
/-- one who can walk by these DOORS -/
def wkS (ν : m2M) (n q : Nat) (l : List Nat) (v : Nat) : Prop := wk (hA ν) (hB ν) (hT ν) (fun _ => 1) n (hW ν q) l v ∧ l.Nodup ∧ ∀ d, d ∈ l → d < n ∧ ν.1 kM_left d ≠ 0
theorem wyP_ok {ν μ : m2M} {n p q pl g : Nat} {l : List Nat} (hR : RLn ν μ n p) (hq : q < p) (hg : g < 12) (e : wyP ν n p q pl g = some l) : wkS ν n q l g ∧ l.length ≤ 11 := by
  obtain ⟨h1, h2, h3⟩ := wy_ok hR.N hR.AB hg (hR.hw q hq).2 e
  refine ⟨⟨wk_mono (fun _ _ _ => by decide) h1, h2, fun d hd => ?_⟩, h3⟩
  have := wk_mem h1 d hd
  exact ⟨this.1, hO_ne hR this.1 (pC_open this.2)⟩
def gW (q : Nat) : List Nat → m2M → m2M
  | [], ν => ν
  | d :: l, ν => gW q l (gG ν q d)
theorem gG_at {ν : m2M} {q d c : Nat} (h1 : c ≠ kM_left) (h2 : c ≠ kM_where) (h3 : c ≠ kM_wasThere) (h4 : c ≠ kM_isDone) : (gG ν q d).1 c = ν.1 c := by
  unfold gG gA
  rw [si_nc _ _ _ h4, si_nc _ _ _ h3, si_nc _ _ _ h2, gS_ne h1]
theorem gG_left {ν : m2M} {q d e : Nat} (h : e ≠ d) : (gG ν q d).1 kM_left e = ν.1 kM_left e := by
  unfold gG gA
  rw [si_nc _ _ _ (by decide), si_nc _ _ _ (by decide), si_nc _ _ _ (by decide)]
  unfold gS
  by_cases z : ν.1 kM_isStranger q = 0
  · rw [if_pos z]; exact si_nj _ _ _ h
  · rw [if_neg z]
theorem gG_where {ν : m2M} {q d : Nat} : (gG ν q d).1 kM_where q = gB ν q d := by
  unfold gG gA
  rw [si_nc _ _ _ (by decide), si_nc _ _ _ (by decide), si_at]
theorem gG_hA {ν : m2M} {q d : Nat} : hA (gG ν q d) = hA ν ∧ hB (gG ν q d) = hB ν ∧ hT (gG ν q d) = hT ν := by
  refine ⟨funext fun e => ?_, funext fun e => ?_, funext fun e => ?_⟩
  · unfold hA; rw [gG_at (by decide) (by decide) (by decide) (by decide)]
  · unfold hB; rw [gG_at (by decide) (by decide) (by decide) (by decide)]
  · unfold hT; rw [gG_at (by decide) (by decide) (by decide) (by decide)]
theorem wkS.step {ν μ : m2M} {n p q d v : Nat} {l : List Nat} (hR : RLn ν μ n p) (hq : q < p) (h : wkS ν n q (d :: l) v) : d < n ∧ gB ν q d ≠ -1 ∧ ν.1 kM_left d ≠ 0 ∧ wkS (gG ν q d) n q l v := by
  obtain ⟨⟨h1, _, h3⟩, h4, h5⟩ := h
  have hw := hR.hw q hq
  have hb : gB ν q d = if hA ν d = hW ν q then nI (hB ν d) else if hB ν d = hW ν q ∧ hT ν d = true then nI (hA ν d) else -1 := by
    unfold gB
    rw [hw.1]
    exact mg_beyond (hR.mg vM.rf) h1 hw.2
  have hN := hR.N d h1
  obtain ⟨hn1, hn2⟩ := List.nodup_cons.mp h4
  have key : ∃ x, x < 12 ∧ gB ν q d = nI x ∧ wk (hA ν) (hB ν) (hT ν) (fun _ => 1) n x l v := by
    rcases h3 with ⟨h6, h7⟩ | ⟨h6, h7, h8, h9⟩
    · exact ⟨hB ν d, hN.2, by rw [hb, if_pos h6], h7⟩
    · exact ⟨hA ν d, hN.1, by rw [hb, if_neg h6, if_pos ⟨h8, h7⟩], h9⟩
  obtain ⟨x, hx, ex, hwx⟩ := key
  refine ⟨h1, by rw [ex]; exact nI_ne_m1 (by omega), (h5 d (by simp)).2, ?_, hn2, fun e he => ⟨(h5 e (by simp [he])).1, ?_⟩⟩
  · obtain ⟨g1, g2, g3⟩ := gG_hA (ν := ν) (q := q) (d := d)
    rw [g1, g2, g3]
    have : hW (gG ν q d) q = x := by unfold hW; rw [gG_where, ex, nI_clamp (by omega)]
    rw [this]
    exact hwx
  · rw [gG_left (fun z : e = d => hn1 (by rw [← z]; exact he))]
    exact (h5 e (by simp [he])).2
theorem wkS.fin {ν : m2M} {n q v : Nat} (h : wkS ν n q [] v) : hW ν q = v := h.1
theorem gW_R {n p q v : Nat} (hq : q < p) : ∀ {l : List Nat} {ν μ : m2M}, RLn ν μ n p → wkS ν n q l v → (∃ μ', RLn (gW q l ν) μ' n p) ∧ hW (gW q l ν) q = v
  | [], ν, μ, hR, h => ⟨⟨μ, hR⟩, h.fin⟩
  | d :: l, ν, μ, hR, h => by
    obtain ⟨h1, h2, h3, h4⟩ := h.step hR hq
    show (∃ μ', RLn (gW q l (gG ν q d)) μ' n p) ∧ hW (gW q l (gG ν q d)) q = v
    exact gW_R hq (hR.go hq h1 h2 (fun _ => h3)) h4
/-- what the class writes as one walks -/
def isG (c : Nat) : Bool := (Nat.ble 30 c && Nat.ble c 36) && !(c == 32) || (c == kW_onWay) || (c == kW_strangersOnWay) || (c == kD_left) || (c == kP_where) || (c == kP_reached) || (c == kP_done)
def frG (μ μ' : m2M) : Prop := fr isG μ μ'
theorem frR.g {μ μ' : m2M} (h : frR μ μ') : frG μ μ' := fr.mo h (fun c hc => by
  cases e : (Nat.ble 33 c && Nat.ble c 36) with
  | false => rfl
  | true =>
    rw [Bool.and_eq_true, Nat.ble_eq, Nat.ble_eq] at e
    rcases (show c = 33 ∨ c = 34 ∨ c = 35 ∨ c = 36 by omega) with rfl | rfl | rfl | rfl <;> cases hc)
theorem frW.g {μ μ' : m2M} (h : frW μ μ') : frG μ μ' := fr.mo h (fun c hc => by
  cases e : ((Nat.ble 33 c && Nat.ble c 36) || (c == kW_onWay) || (c == kW_strangersOnWay)) with
  | false => rfl
  | true =>
    rw [Bool.or_eq_true, Bool.or_eq_true, Bool.and_eq_true, Nat.ble_eq, Nat.ble_eq, beq_iff_eq, beq_iff_eq] at e
    rcases e with (e | e) | e
    · rcases (show c = 33 ∨ c = 34 ∨ c = 35 ∨ c = 36 by omega) with rfl | rfl | rfl | rfl <;> cases hc
    · subst e; cases hc
    · subst e; cases hc)
theorem frG.c {μ μ' : m2M} (h : frG μ μ') : frC μ μ' := fr.mo h (fun c hc => by
  have hc : (!isM c) = false := hc
  cases e : isG c with
  | false => rfl
  | true =>
    have : c ≤ 64 := by
      unfold isG at e
      simp only [Bool.or_eq_true, Bool.and_eq_true, Nat.ble_eq, beq_iff_eq] at e
      have e1 : kW_onWay = 47 := rfl
      have e2 : kW_strangersOnWay = 48 := rfl
      have e3 : kD_left = 14 := rfl
      have e4 : kP_where = 16 := rfl
      have e5 : kP_reached = 22 := rfl
      have e6 : kP_done = 23 := rfl
      omega
    have : isM c = false := by unfold isM; rw [ble_f (show c < 65 by omega)]; rfl
    rw [this] at hc
    cases hc)
theorem frG_cG {μ ρ : m2M} {q d : Nat} (h : frG ρ μ) : frG ρ (cG μ q d) := by
  refine fr_si rfl (fr_si rfl (fr_si rfl ?_))
  unfold cS
  by_cases z : μ.1 kP_stranger q = 0
  · rw [if_pos z]; exact fr_si rfl h
  · rw [if_neg z]; exact h
theorem S_findC {D n p frm goal : Nat} (hD : 2 ≤ D) {C : Nat → Nat} (ν μ : m2M) (h : RLn ν μ n p) (hc : ∀ d, d < n → μ.1 kR_cost d = nI (C d) ∧ C d ≤ 200000) (hfrm : frm < 12) (hgoal : goal < 12) : m2_MT D yX8_find cX8_find 3 (some .int) [.ref kR, .int (nI frm), .int (nI goal)] μ (fun r μ' => frR μ μ' ∧ μ'.1 kR_cost = μ.1 kR_cost ∧ match wy (hA ν) (hB ν) (hT ν) C n 268435456 frm goal with
    | none => r = some (.int (-1))
    | some l => r = some (.int (nI l.length)) ∧ ∀ i d, l[i]? = some d → μ'.1 kR_found i = nI d) := by
  refine (S_find hD μ h.cg hc hfrm hgoal).mono ?_
  rintro r μ' ⟨h1, h2⟩
  obtain ⟨g1, g2, g3, rfl⟩ := id h1
  exact ⟨fr_sr rfl (fr_sr rfl (fr_sr rfl fr.rf)), rfl, h2⟩
def isT (c : Nat) : Bool := (c == kR_cost) || (c == kE_known) || (c == kE_stack)
def frT (μ μ' : m2M) : Prop := fr isT μ μ'
theorem isT_of {c : Nat} (h : isT c = true) : c = kR_cost ∨ c = kE_known ∨ c = kE_stack := by
  unfold isT at h
  simp only [Bool.or_eq_true, beq_iff_eq] at h
  omega
theorem frT.j {μ μ' : m2M} (h : frT μ μ') : jC μ μ' := fr_j h (fun c hc => by
  rcases isT_of hc with rfl | rfl | rfl
  · exact ⟨fun _ => rfl, rfl⟩
  · exact ⟨fun _ => rfl, rfl⟩
  · exact ⟨fun _ => rfl, rfl⟩)
theorem frT.g {μ μ' : m2M} (h : frT μ μ') : frG μ μ' := fr.mo h (fun c hc => by
  cases e : isT c with
  | false => rfl
  | true => rcases isT_of e with rfl | rfl | rfl <;> cases hc)
theorem frE.t {μ μ' : m2M} (h : frE μ μ') : frT μ μ' := fr.mo h (fun c hc => by
  unfold isT at hc
  simp only [Bool.or_eq_false_iff] at hc ⊢
  exact ⟨hc.1.2, hc.2⟩)
theorem S_setCosts {D n p q pl : Nat} (hD : 3 ≤ D) (ν μ : m2M) (hR : RLn ν μ n p) (hq : q < p) (hpl : pl < 4) (hw : pl = 3 → (-6) ∈ prL ν → ∀ d, d < n → μ.1 kW_onWay d = nI (cnb (cwF ν n (nI q) d) p)) : m2_MT D yX10_setCosts cX10_setCosts 5 none [.ref kW, .int (nI q), .int (nI pl)] μ (fun _ μ' => frT μ μ' ∧ ∀ d, d < n → μ'.1 kR_cost d = nI (pC ν n p q pl d)) := by
  obtain ⟨D, rfl⟩ : ∃ E, D = E + 1 := ⟨D - 1, by omega⟩
  have hn := hR.n20
  have hp := hR.p8
  refine m2_MT.intro (ls := [.ref kW, .int (nI q), .int (nI pl), .null, .null]) (by decide +kernel) rfl (ble rfl) (fun κ hk => ?_)
  have cas : ∀ d, d < n → μ.1 kD_left d = nI (hL ν d) ∧ hL ν d < 2 ^ 31 := fun d hd => ⟨(hR.cl d hd).1, by have := (hR.cl d hd).2; omega⟩
  obtain ⟨kk, hkk, ek⟩ := hR.2.2.2.2.2.2.2.1.2
  have ek6 : μ.1 kW 6 = nI kk := hR.2.2.2.2.2.2.2.1.1.trans ek
  by_cases z : pl = 0 ∨ pl = 2
  · have fin : ∀ m : Nat, (m = if pl = 2 then kk else 0) → ∀ d, d < n → (if d < n then (if m < hL ν d then (1 : Int32) else 0) else μ.1 kR_cost d) = nI (pC ν n p q pl d) := by
      intro m hm d hd
      rw [if_pos hd]
      unfold pC pU
      rw [if_pos z, ek, nI_clamp (by omega)]
      by_cases z2 : pl = 2
      · rw [if_pos z2] at hm
        rw [if_pos z2, hm]
        by_cases w : kk < hL ν d
        · rw [if_pos w, if_pos (decide_eq_true w)]; rfl
        · rw [if_neg w, if_neg (by simp [w])]; rfl
      · rw [if_neg z2] at hm
        rw [if_neg z2, hm]
        unfold hO
        by_cases w : 0 < hL ν d
        · rw [if_pos w, if_pos (decide_eq_true w)]; rfl
        · rw [if_neg w, if_neg (by simp [w])]; rfl
    refine B_X10_setCosts_0 hk ⟨fun z1 => ?_, fun z1 => ⟨fun z2 => ?_, fun z2 => ?_⟩⟩
    · have e1 : pl = 0 := (nI_eq (b := 0) (by omega) (by decide)).mp z1
      subst e1
      refine ⟨_, S_useAbove (m := 0) (by omega) μ hR.1.1 hn cas (by decide), fun μ5 e5 => ?_⟩
      subst e5
      exact ⟨fr_sr rfl fr.rf, fin 0 rfl⟩
    · exfalso
      rcases z with z | z
      · exact z1 (by rw [z]; rfl)
      · exact z2 (by rw [z]; rfl)
    · have e1 : pl = 2 := (nI_eq (b := 2) (by omega) (by decide)).mp z2
      subst e1
      rw [if_pos (show nI 2 = 2 from rfl), ek6]
      refine ⟨_, S_useAbove (m := kk) (by omega) μ hR.1.1 hn cas (by omega), fun μ5 e5 => ?_⟩
      subst e5
      exact ⟨fr_sr rfl fr.rf, fin kk rfl⟩
  · refine B_X10_setCosts_0 hk ⟨fun z1 => absurd (Or.inl ((nI_eq (b := 0) (by omega) (by decide)).mp z1)) z, fun z1 => ⟨fun _ => ?_, fun z2 => absurd (Or.inr ((nI_eq (b := 2) (by omega) (by decide)).mp z2)) z⟩⟩
    refine dn (n := n) (G := fun i => ∀ μ1, frT μ μ1 → (∀ d, d < i → μ1.1 kR_cost d = nI (pC ν n p q pl d)) → κ 32 [.ref kW, .int (nI q), .int (nI pl), .int (nI i), .null] [] μ1) ?_ (fun i hi ih => ?_) μ fr.rf (fun d hd => absurd hd (Nat.not_lt_zero d))
    · intro μ1 f1 c1
      exact B_X10_setCosts_32 hk (pk_le n n (fun _ => ⟨f1, c1⟩) (fun w => absurd w (by omega)) (f1.j.R hR).1.1)
    · intro μ1 f1 c1
      have hR1 := f1.j.R hR
      have hl := hR1.cl i hi
      refine B_X10_setCosts_32 hk (pk_le n i (fun w => absurd w (by omega)) (fun _ => ⟨vp_in_nI (by omega) (by decide), ?_⟩) hR1.1.1)
      rw [nI_clamp (by omega), nI_1, hl.1]
      have go : ∀ (μ2 : m2M) (v : Int32), frT μ μ2 → (∀ d, d < i → μ2.1 kR_cost d = nI (pC ν n p q pl d)) → v = nI (pC ν n p q pl i) → κ 32 [.ref kW, .int (nI q), .int (nI pl), .int (nI (i + 1)), .null] [] (m2_si μ2 kR_cost i v) := by
        intro μ2 v f2 c2 ev
        refine ih _ (fr_si rfl f2) (fun d hd => ?_)
        by_cases w : d = i
        · subst w; rw [si_at, ev]
        · rw [si_nj _ _ _ w]; exact c2 d (by omega)
      refine pk_le (hL ν i) 0 (fun w => ?_) (fun w => ?_) rfl rfl (by omega) (by decide)
      · refine go μ1 0 f1 c1 ?_
        unfold pC hO
        rw [if_neg z, if_neg (by simp; omega)]
        rfl
      have f2 : frT μ (m2_si μ1 kR_cost i 0) := fr_si rfl f1
      refine ⟨_, S_setPrice (by omega) ν _ (f2.j.R hR) hq hi, fun μ7 r7 => ?_⟩
      obtain ⟨f7, e7⟩ := r7
      have ft7 : frT μ μ7 := f2.tr f7.t
      have c7 : ∀ d, d < i → μ7.1 kR_cost d = nI (pC ν n p q pl d) := fun d hd => by
        rw [(f7 kR_cost rfl).1, si_nj _ _ _ (by omega)]
        exact c1 d hd
      refine ⟨fun w2 => ?_, fun w2 => ?_⟩
      · have h3 : pl = 3 := by
          apply Classical.byContradiction
          intro w3
          have : pl = 1 := by omega
          exact w2 (by rw [this]; rfl)
        refine ⟨_, S_workPrice (q := q) (d := i) (by omega) ν μ7 (ft7.j.R hR) (e7 (fun w3 => by rw [(f2 kW_onWay rfl).1]; exact hw h3 w3 i hi)), fun y12 μ13 r13 => ?_⟩
        obtain ⟨e12, f13⟩ := r13
        cases e12
        obtain ⟨a, ha1, ha2, ea⟩ := prV_in ν n p q i
        refine go μ13 _ (ft7.tr f13.t) (fun d hd => ?_) ?_
        · rw [(f13 kR_cost rfl).1]
          exact c7 d hd
        · unfold pC pS hO
          rw [if_neg z, if_pos (decide_eq_true w), if_neg (by omega), ea, nI_clamp (by omega), show (16 : Int32) = nI 16 from rfl, pk_mul, nI_1]
      · have h1 : pl = 1 := (nI_eq (b := 1) (by omega) (by decide)).mp w2
        rw [((ft7.j.R hR).cl i hi).1]
        refine go μ7 _ ft7 c7 ?_
        unfold pC pS hO
        rw [if_neg z, if_pos (decide_eq_true w), if_pos h1, show (61 : Int32) = nI 61 from rfl, pk_sub (by omega), show (16 : Int32) = nI 16 from rfl, pk_mul, nI_1]
/-- one goes to where it has to come next -/
def gnN (ν : m2M) (q : Nat) : Nat := (gN ν q).toNatClampNeg
theorem RLn.gn {ν μ : m2M} {n p q : Nat} (h : RLn ν μ n p) (hq : q < p) (hb : gN ν q ≠ -1) : gN ν q = nI (gnN ν q) ∧ gnN ν q < 12 := in_n ((h.gin hq).resolve_left hb) (by decide)
def lgO (ν : m2M) (n p q pl : Nat) : Option (List Nat) := wyP ν n p q pl (gnN ν q)
theorem S_leg {D n p q pl : Nat} (hD : 4 ≤ D) (ν μ : m2M) (hR : RLn ν μ n p) (hq : q < p) (hpl : pl < 4) (hb : gN ν q ≠ -1) : m2_MT D yX10_leg cX10_leg 6 (some .int) [.ref kW, .int (nI q), .int (nI pl)] μ (fun r μ' => frG μ μ' ∧ match lgO ν n p q pl with
    | none => r = some (.int (-1)) ∧ RLn ν μ' n p
    | some l => r = some (.int (nI l.length)) ∧ RLn (gW q l ν) μ' n p ∧ ∀ i d, l[i]? = some d → μ'.1 kR_found i = nI d) := by
  obtain ⟨D, rfl⟩ : ∃ E, D = E + 1 := ⟨D - 1, by omega⟩
  have hn := hR.n20
  have hp := hR.p8
  obtain ⟨eg, hg⟩ := hR.gn hq hb
  refine m2_MT.intro (ls := [.ref kW, .int (nI q), .int (nI pl), .null, .null, .null]) (by decide +kernel) rfl (ble rfl) (fun κ hk => ?_)
  -- the walk
  have walk : ∀ (l' : List Nat) (i : Nat) (L : List Nat) (ν1 μ1 : m2M), L.drop i = l' → i ≤ L.length → L.length ≤ 11 → wkS ν1 n q l' (gnN ν q) → RLn ν1 μ1 n p → frG μ μ1 → (∀ j d, L[j]? = some d → μ1.1 kR_found j = nI d) → (∀ μ', frG μ μ' → RLn (gW q l' ν1) μ' n p → (∀ j d, L[j]? = some d → μ'.1 kR_found j = nI d) → (frG μ μ' ∧ match lgO ν n p q pl with | none => some (Value.int (nI L.length)) = some (.int (-1)) ∧ RLn ν μ' n p | some l => some (Value.int (nI L.length)) = some (.int (nI l.length)) ∧ RLn (gW q l ν) μ' n p ∧ ∀ i d, l[i]? = some d → μ'.1 kR_found i = nI d)) → κ 64 [.ref kW, .int (nI q), .int (nI pl), .int (gN ν q), .int (nI L.length), .int (nI i)] [] μ1 := by
    intro l'
    induction l' with
    | nil =>
      intro i L ν1 μ1 hl hiL hL hs hR1 f1 hf fin
      have : L.length ≤ i := List.drop_eq_nil_iff.mp hl
      exact B_X10_leg_64 hk (pk_le L.length i (fun _ => fin μ1 f1 hR1 hf) (fun w => absurd w (by omega)))
    | cons d l' ih =>
      intro i L ν1 μ1 hl hiL hL hs hR1 f1 hf fin
      have hlt : i < L.length := by
        apply Classical.byContradiction
        intro w
        rw [List.drop_eq_nil_iff.mpr (by omega)] at hl
        cases hl
      have e0 : L[i]? = some d := by
        have := congrArg (fun x => x[0]?) hl
        simpa using this
      have e1 : L.drop (i + 1) = l' := by
        have := congrArg List.tail hl
        simpa using this
      obtain ⟨s1, s2, s3, s4⟩ := hs.step hR1 hq
      obtain ⟨⟨_, _, _, _, _, _, a7, a8⟩, _, _, _, _, _, _, b7, b8, _⟩ := hR1.2.1.2.2.2 q hq
      refine B_X10_leg_64 hk (pk_le L.length i (fun w => absurd w (by omega)) (fun _ => ⟨vp_in_nI (by omega) (by decide), ?_⟩))
      rw [nI_clamp (by omega), hf i d e0, nI_1]
      refine ⟨_, S_goThrough (by omega) (by omega) (by omega) μ1 (by rw [a7]; exact b7) (by rw [a8]; exact b8) (by rw [hR1.bey hq s1]; exact s2), fun μ5 e5 => ?_⟩
      subst e5
      refine ih (i + 1) L (gG ν1 q d) (cG μ1 q d) e1 (by omega) hL s4 (hR1.go hq s1 s2 (fun _ => s3)) (frG_cG f1) (fun j d' e => ?_) fin
      have : (cG μ1 q d).1 kR_found = μ1.1 kR_found := by
        unfold cG cA
        rw [si_nc _ _ _ (by decide), si_nc _ _ _ (by decide), si_nc _ _ _ (by decide), cS_ne (by decide)]
      rw [this]
      exact hf j d' e
  -- the way
  have way : ∀ (μ1 : m2M), frG μ μ1 → RLn ν μ1 n p → (∀ d, d < n → μ1.1 kR_cost d = nI (pC ν n p q pl d)) → ∃ Q15 : Option Value → m2M → Prop, m2_MT D yX8_find cX8_find 3 (some .int) [.ref kR, .int (μ1.1 kP_where (nI q).toNatClampNeg), .int (fX6_goal (nI q) μ)] μ1 Q15 ∧ ∀ (y13 : Int32) (μ14 : m2M), Q15 (some (.int y13)) μ14 → κ 64 [.ref kW, .int (nI q), .int (nI pl), .int (fX6_goal (nI q) μ), .int y13, .int 0] [] μ14 := by
    intro μ1 f1 hR1 c1
    rw [nI_clamp (by omega), (hR1.cw q hq).1, hR.goal hq]
    rw [eg]
    refine ⟨_, S_findC (C := pC ν n p q pl) (by omega) ν μ1 hR1 (fun d hd => ⟨c1 d hd, pC_le ν n p q pl d⟩) (hR.hw q hq).2 hg, fun y13 μ14 r14 => ?_⟩
    rw [← eg]
    obtain ⟨f14, _, m14⟩ := r14
    have hR14 := f14.j.R hR1
    have f14' := f1.tr f14.g
    have elg : lgO ν n p q pl = wy (hA ν) (hB ν) (hT ν) (pC ν n p q pl) n 268435456 (hW ν q) (gnN ν q) := rfl
    revert m14
    cases e : wy (hA ν) (hB ν) (hT ν) (pC ν n p q pl) n 268435456 (hW ν q) (gnN ν q) with
    | none =>
      intro m14
      cases m14
      refine B_X10_leg_64 hk ⟨fun _ => ⟨f14', ?_⟩, fun w => absurd (by decide) w⟩
      rw [elg, e]
      exact ⟨rfl, hR14⟩
    | some l =>
      rintro ⟨m1, m2⟩
      cases m1
      obtain ⟨w1, w2⟩ := wyP_ok hR hq hg (pl := pl) (l := l) e
      have key := walk l 0 l ν μ14 rfl (Nat.zero_le _) w2 w1 hR14 f14' m2 (fun μ' f' hR' hf' => ⟨f', ?_⟩)
      · rw [nI_0] at key
        exact key
      · rw [elg, e]
        exact ⟨rfl, hR', hf'⟩
  refine B_X10_leg_0 hk (by omega) ⟨vp_in_nI (by omega) (by decide), fun _ => ⟨fun z3 => ?_, fun z3 => ⟨fun z4 => ?_, fun z4 => ?_⟩⟩, fun w => absurd (by rw [← hR.goal hq]; exact w) hb⟩
  · refine ⟨_, S_setCosts (by omega) ν μ hR hq hpl (fun w => absurd (by rw [w]; rfl) z3), fun μ8 r8 => ?_⟩
    exact way μ8 r8.1.g (r8.1.j.R hR) r8.2
  · obtain ⟨k, x1, x2, x3, x4, x5, x6, x7, x8⟩ := hR.X
    refine ⟨_, S_setCosts (by omega) ν μ hR hq hpl (fun _ w => absurd z4 (by rw [x8, if_pos w]; decide)), fun μ8 r8 => ?_⟩
    exact way μ8 r8.1.g (r8.1.j.R hR) r8.2
  · refine ⟨_, S_countWays (by omega) (nI q) ν μ hR, fun μ31 r31 => ?_⟩
    have hR31 := r31.1.j.R hR
    refine ⟨_, S_setCosts (by omega) ν μ31 hR31 hq hpl (fun _ _ d hd => (r31.2 d hd).1), fun μ36 r36 => ?_⟩
    exact way μ36 (r31.1.g.tr r36.1.g) (r36.1.j.R hR31) r36.2
/-- the reference's costs -/
def pV (ν : m2M) (n p q pl d : Nat) : Int32 := if pl = 0 ∨ pl = 2 then (if pU ν pl d = true then 1 else 100000000) else (if hO ν d = true then nI (pS ν n p q pl d) else 100000000)
theorem pV_mc {ν μ : m2M} {n p q pl : Nat} (h : ∀ d, d < n → μ.1 kM_cost d = pV ν n p q pl d) : mc_ μ n (pC' ν n p q pl) := by
  intro d hd
  rw [h d hd]
  unfold pV pC'
  have := pS_le ν n p q pl d
  by_cases z : pl = 0 ∨ pl = 2
  · rw [if_pos z, if_pos z]
    by_cases z2 : pU ν pl d = true
    · rw [if_pos z2, if_pos z2]; exact Or.inr ⟨1, by decide, rfl, rfl⟩
    · rw [if_neg z2, if_neg z2]; exact Or.inl ⟨rfl, rfl⟩
  · rw [if_neg z, if_neg z]
    by_cases z2 : hO ν d = true
    · rw [if_pos z2, if_pos z2]; exact Or.inr ⟨_, this, rfl, rfl⟩
    · rw [if_neg z2, if_neg z2]; exact Or.inl ⟨rfl, rfl⟩
theorem S_findPlanned {D n p q pl g : Nat} (hD : 405 ≤ D) (ν μ μ0 : m2M) (hR : RLn ν μ0 n p) (hv : vM ν μ) (hq : q < p) (hpl : pl < 4) (hg : g < 12) : m2_MT D yX12_findPlanned cX12_findPlanned 5 (some .boolean) [.ref kM, .int (nI q), .int (nI pl), .int (nI g)] μ (fun r μ' => jM μ μ' ∧ match wyP ν n p q pl g with
    | none => r = some (.int 0)
    | some l => r = some (.int 1) ∧ μ'.1 kM 37 = nI l.length ∧ ∀ i d, l[i]? = some d → μ'.1 kM_way i = nI d) := by
  obtain ⟨D, rfl⟩ : ∃ E, D = E + 1 := ⟨D - 1, by omega⟩
  have hn := hR.n20
  have hp := hR.p8
  obtain ⟨k, x1, x2, x3, x4, x5, x6, x7, x8⟩ := hR.X
  obtain ⟨kk, hkk, ek⟩ := hR.2.2.2.2.2.2.2.1.2
  refine m2_MT.intro (ls := [.ref kM, .int (nI q), .int (nI pl), .int (nI g), .null]) (by decide +kernel) rfl (ble rfl) (fun κ hk => ?_)
  let own : m2M → Prop := fun μ1 => pl = 3 → prL ν ≠ [] → ∀ d, d < n → μ1.1 kM_isOnWay d = bts (fun q => wwB ν n q d) p ∧ μ1.1 kM_onTheirWay d = nI (cnb (fun q => wwB ν n q d) p)
  have loop : ∀ μ1, jM μ μ1 → own μ1 → κ 16 [.ref kM, .int (nI q), .int (nI pl), .int (nI g), .null] [] μ1 := by
    intro μ1 j1 o1
    refine B_X12_findPlanned_16 hk ?_
    refine dn (n := n) (G := fun i => ∀ μ1, jM μ μ1 → own μ1 → (∀ d, d < i → μ1.1 kM_cost d = pV ν n p q pl d) → κ 19 [.ref kM, .int (nI q), .int (nI pl), .int (nI g), .int (nI i)] [] μ1) ?_ (fun i hi ih => ?_) μ1 j1 o1 (fun d hd => absurd hd (Nat.not_lt_zero d))
    · intro μ1 j1 o1 c1
      have v1 := j1.v hv
      refine B_X12_findPlanned_19 hk (pk_le n n (fun _ => ⟨vp_in_nI (by omega) (by decide), ?_⟩) (fun w => absurd w (by omega)) ((v1.1 kM 0 rfl rfl).trans hR.1.2.1))
      rw [nI_clamp (by omega), v1.1 kM_where q rfl rfl, (hR.hw q hq).1]
      refine ⟨_, S_findWayC (by omega) ν μ1 μ0 hR v1 (pV_mc c1) (hR.hw q hq).2 hg, fun y4 μ5 r5 => ?_⟩
      obtain ⟨j5, _, m5⟩ := r5
      rw [← wyP_eq hR hq hg] at m5
      refine ⟨?_, j1.tr j5, m5⟩
      revert m5
      cases wyP ν n p q pl g with
      | none => exact fun z => Or.inl (by cases z; rfl)
      | some l => exact fun z => Or.inr (by have := z.1; cases this; rfl)
    · intro μ1 j1 o1 c1
      have v1 := j1.v hv
      have hl := hR.hl i hi
      have fin : ∀ μ2, jM μ μ2 → own μ2 → (∀ d, d < i → μ2.1 kM_cost d = pV ν n p q pl d) → μ2.1 kM_cost i = pV ν n p q pl i → κ 140 [.ref kM, .int (nI q), .int (nI pl), .int (nI g), .int (nI i)] [] μ2 := by
        intro μ2 j2 o2 c2 ci
        refine B_X12_findPlanned_140 hk ?_
        rw [nI_1]
        refine ih μ2 j2 o2 (fun d hd => ?_)
        by_cases w : d = i
        · subst w; exact ci
        · exact c2 d (by omega)
      have s111 : ∀ μ2, jM μ μ2 → own μ2 → (∀ d, d < i → μ2.1 kM_cost d = pV ν n p q pl d) → (pl ≠ 3 ∨ hL ν i = 0 → μ2.1 kM_cost i = pV ν n p q pl i) → κ 111 [.ref kM, .int (nI q), .int (nI pl), .int (nI g), .int (nI i)] [] μ2 := by
        intro μ2 j2 o2 c2 ci
        have v2 := j2.v hv
        refine B_X12_findPlanned_111 hk ⟨fun w => fin μ2 j2 o2 c2 (ci (Or.inl (fun e => w (by rw [e]; rfl)))), fun w => ⟨vp_in_nI (by omega) (by decide), ?_⟩⟩
        have w3 : pl = 3 := (nI_eq (b := 3) (by omega) (by decide)).mp w
        rw [nI_clamp (by omega), v2.1 kM_left i rfl rfl, hl.1]
        refine pk_le (hL ν i) 0 (fun w4 => fin μ2 j2 o2 c2 (ci (Or.inr (by omega)))) (fun w4 => ?_) rfl rfl (by omega) (by decide)
        refine ⟨_, S_priceOf (by omega) ν μ2 μ0 hR v2 hq hi (fun w5 => o2 w3 w5 i hi), fun y5 μ6 r6 => ?_⟩
        obtain ⟨e5, f6⟩ := r6
        cases e5
        have g6 : ∀ c, c ≠ kM → μ6.1 c = μ2.1 c := fun c hc => (f6.1 c (by simp [hc])).1
        refine fin _ (jM_sr (j2.tr f6.j) (fun _ => rfl) rfl) (fun a b d hd => ?_) (fun d hd => ?_) ?_
        · rw [si_nc _ _ _ (by decide), si_nc _ _ _ (by decide), g6 _ (by decide), g6 _ (by decide)]
          exact o2 a b d hd
        · rw [si_nj _ _ _ (by omega), g6 _ (by decide)]
          exact c2 d hd
        · rw [si_at]
          unfold pV pS hO
          obtain ⟨a, _, ha2, ea⟩ := prV_in ν n p q i
          rw [if_neg (by omega), if_pos (decide_eq_true w4), if_neg (by omega), ea, nI_clamp (by omega)]
      have s83 : ∀ (μ2 : m2M) (v : Int32), jM μ μ2 → own μ2 → (∀ d, d < i → μ2.1 kM_cost d = pV ν n p q pl d) → (pl ≠ 2 → pl ≠ 3 ∨ hL ν i = 0 → v = pV ν n p q pl i) → (pl = 2 → hL ν i ≠ 0 → v = 1) → κ 83 [.ref kM, .int (nI q), .int (nI pl), .int (nI g), .int (nI i)] [] (m2_si μ2 kM_cost i v) := by
        intro μ2 v j2 o2 c2 hv1 hv2
        have hx : ∀ x : Int32, jM μ (m2_si μ2 kM_cost i x) ∧ own (m2_si μ2 kM_cost i x) ∧ (∀ d, d < i → (m2_si μ2 kM_cost i x).1 kM_cost d = pV ν n p q pl d) := by
          intro x
          refine ⟨jM_sr j2 (fun _ => rfl) rfl, fun a b d hd => o2 a b d hd, fun d hd => ?_⟩
          rw [si_nj _ _ _ (by omega)]
          exact c2 d hd
        obtain ⟨j3, o3, c3⟩ := hx v
        have v3 := j3.v hv
        refine B_X12_findPlanned_83 hk ⟨fun w => s111 _ j3 o3 c3 (fun w2 => ?_), fun w => ⟨vp_in_nI (by omega) (by decide), ?_⟩⟩
        · rw [si_at]
          exact hv1 (fun e => w (by rw [e]; rfl)) w2
        · have w2 : pl = 2 := (nI_eq (b := 2) (by omega) (by decide)).mp w
          rw [nI_clamp (by omega), v3.1 kM_left i rfl rfl, hl.1, v3.1 kM 17 rfl rfl, ek, m2_si_si]
          refine pk_lt kk (hL ν i) (fun w3 => s111 _ j3 o3 c3 (fun _ => ?_)) (fun w3 => ?_) rfl rfl (by omega) (by omega)
          · rw [si_at, hv2 w2 (by omega)]
            unfold pV pU
            rw [if_pos (Or.inr w2), if_pos w2, ek, nI_clamp (by omega), if_pos (decide_eq_true w3)]
          · obtain ⟨j4, o4, c4⟩ := hx 100000000
            refine s111 _ j4 o4 c4 (fun _ => ?_)
            rw [si_at]
            unfold pV pU
            rw [if_pos (Or.inr w2), if_pos w2, ek, nI_clamp (by omega), if_neg (by simp; omega)]
      refine B_X12_findPlanned_19 hk (pk_le n i (fun w => absurd w (by omega)) (fun _ => ⟨vp_in_nI (by omega) (by decide), ?_⟩) ((v1.1 kM 0 rfl rfl).trans hR.1.2.1))
      rw [nI_clamp (by omega), v1.1 kM_left i rfl rfl, hl.1]
      have e0 : (if nI (hL ν i) = 0 then (100000000 : Int32) else 1) = if hL ν i = 0 then 100000000 else 1 := by
        by_cases w : hL ν i = 0
        · rw [w]; rfl
        · rw [if_neg (nI_ne0 (by omega) (by omega)), if_neg w]
      rw [e0]
      refine ⟨fun w => ?_, fun w => ?_⟩
      · have w1 : pl ≠ 1 := fun e => w (by rw [e]; rfl)
        refine s83 μ1 _ j1 o1 c1 (fun w2 w3 => ?_) (fun _ w3 => if_neg w3)
        unfold pV pU
        by_cases z : pl = 0
        · rw [if_pos (Or.inl z), if_neg w2]
          unfold hO
          by_cases z2 : hL ν i = 0
          · rw [if_pos z2, if_neg (by simp; omega)]
          · rw [if_neg z2, if_pos (decide_eq_true (by omega))]
        · have z3 : hL ν i = 0 := w3.resolve_left (by omega)
          rw [if_pos z3, if_neg (by omega)]
          unfold hO
          rw [if_neg (by simp; omega)]
      · have w1 : pl = 1 := (nI_eq (b := 1) (by omega) (by decide)).mp w
        refine pk_le (hL ν i) 0 (fun w4 => ?_) (fun w4 => ?_) rfl rfl (by omega) (by decide)
        · refine s83 μ1 _ j1 o1 c1 (fun _ _ => ?_) (fun w2 => absurd w2 (by omega))
          rw [if_pos (by omega)]
          unfold pV hO
          rw [if_neg (by omega), if_neg (by simp; omega)]
        · rw [m2_si_si]
          refine s83 μ1 _ j1 o1 c1 (fun _ _ => ?_) (fun w2 => absurd w2 (by omega))
          unfold pV pS hO
          rw [if_neg (by omega), if_pos (decide_eq_true w4), if_pos w1, show (61 : Int32) = nI 61 from rfl, pk_sub (by omega)]
  refine B_X12_findPlanned_0 hk ⟨fun w => loop μ jM.rf (fun a => absurd (by rw [a]; rfl) w), fun w => ?_⟩
  rw [hv.1 kM 29 rfl rfl, x2]
  refine pk_le k 0 (fun w2 => loop μ jM.rf (fun _ b => absurd (x3.mp (by omega)) b)) (fun w2 => ?_) rfl rfl (by omega) (by decide)
  refine ⟨_, S_findTheirWays (by omega) ν μ μ0 hR hv, fun μ4 r4 => ?_⟩
  exact loop μ4 r4.1 (fun _ _ => r4.2)
/-! goes -/
theorem si_tl {ν : m2M} {r : List Int64} {c j : Nat} {x : Int32} (h : kM ≠ c) : m2_si (tlM ν r) c j x = tlM (m2_si ν c j x) r := by
  unfold tlM
  rw [m2_si_comm _ h, m2_sl_si]
theorem gS_tl {ν : m2M} {r : List Int64} {q d : Nat} : gS (tlM ν r) q d = tlM (gS ν q d) r := by
  unfold gS
  have e : (tlM ν r).1 kM_isStranger q = ν.1 kM_isStranger q := rfl
  have e2 : (tlM ν r).1 kM_left d = ν.1 kM_left d := rfl
  rw [e, e2]
  by_cases z : ν.1 kM_isStranger q = 0
  · rw [if_pos z, if_pos z, si_tl (by decide)]
  · rw [if_neg z, if_neg z]
theorem gA_tl {ν : m2M} {r : List Int64} {q : Nat} {x : Int32} : gA (tlM ν r) q x = tlM (gA ν q x) r := by
  unfold gA
  have e : gRt (tlM ν r) q x = gRt ν q x := rfl
  have e2 : gDn (tlM ν r) q x = gDn ν q x := rfl
  rw [e, e2, si_tl (by decide), si_tl (by decide), si_tl (by decide)]
theorem gG_tl {ν : m2M} {r : List Int64} {q d : Nat} : gG (tlM ν r) q d = tlM (gG ν q d) r := by
  unfold gG
  have e : gB (tlM ν r) q d = gB ν q d := rfl
  rw [e, gS_tl, gA_tl]
theorem S_goStep {D n p q d v : Nat} {l : List Nat} (hD : 1 ≤ D) (ν1 ν2 μ0 μ1 : m2M) (hR : RLn ν1 μ0 n p) (hq : q < p) (hs : wkS ν1 n q (d :: l) v) (h12 : ∀ c, c ≠ kM → ν2.1 c = ν1.1 c) (hv : vM ν2 μ1) : m2_MT D yX12_go cX12_go 3 none [.ref kM, .int (nI q), .int (nI d)] μ1 (fun _ μ' => μ' = gG μ1 q d) := by
  have hn := hR.n20
  have hp := hR.p8
  obtain ⟨s1, s2, s3, s4⟩ := hs.step hR hq
  obtain ⟨_, _, _, _, _, _, _, b7, b8, b9⟩ := hR.2.1.2.2.2 q hq
  have eB : gB μ1 q d = gB ν1 q d := by
    rw [vM_gB hv]
    unfold gB fX12_beyond
    rw [h12 _ (by decide), h12 _ (by decide), h12 _ (by decide), h12 _ (by decide)]
  refine S_go hD (by omega) (by omega) μ1 (by rw [eB]; exact s2) ?_ ?_ ?_
  · rw [hv.1 kM_errand q rfl rfl, hv.1 kM_wasThere q rfl rfl, h12 _ (by decide), h12 _ (by decide)]
    exact fun z => (b9 z).1
  · rw [hv.1 kM_wasThere q rfl rfl, h12 _ (by decide)]
    exact b7
  · rw [hv.1 kM_isDone q rfl rfl, h12 _ (by decide)]
    exact b8
theorem RLn.busy {ν μ : m2M} {n p q : Nat} (h : RLn ν μ n p) (hq : q < p) : fX6_isBusy (nI q) μ = 1 ↔ gN ν q ≠ -1 := by
  rw [← h.goal hq]
  have hg := h.gin hq
  rw [← h.goal hq] at hg
  unfold fX6_goal at hg ⊢
  by_cases z : fX6_isBusy (nI q) μ = 1
  · rw [if_pos z] at hg ⊢
    refine ⟨fun _ w => ?_, fun _ => z⟩
    have hp := h.p8
    obtain ⟨⟨a1, a2, a3, a4, a5, a6, a7, a8⟩, b1, b2, b3, b4, b5, b6⟩ := h.2.1.2.2.2 q hq
    unfold fX6_isBusy at z
    rw [nI_clamp (by omega)] at z w
    by_cases w1 : μ.1 kP_reached q = 0
    · rw [if_pos w1] at w
      rw [if_pos w] at z
      exact absurd z (by decide)
    · rw [if_neg w1, a2] at w
      obtain ⟨a, ha, e⟩ := b2
      rw [e] at w
      exact nI_ne_m1 (by omega) w
  · rw [if_neg z]
    exact ⟨fun w => absurd w z, fun w => absurd rfl w⟩
theorem isPlan_iff {x : Int32} : fX11_isPlan x = 1 ↔ in_ 4 x := by
  unfold fX11_isPlan
  rw [← has_in (n := 4) (by decide)]
  by_cases h1 : x < 0
  · rw [if_pos h1]
    exact ⟨fun q => absurd q (by decide), fun q => absurd h1 q.1⟩
  · rw [if_neg h1]
    by_cases h2 : (4 : Int32) ≤ x
    · rw [if_pos h2]
      exact ⟨fun q => absurd q (by decide), fun q => absurd h2 q.2⟩
    · rw [if_neg h2]
      exact ⟨fun _ => ⟨h1, h2⟩, fun _ => rfl⟩
theorem S_tellNone {D : Nat} (μ : m2M) : m2_MT D yX11_tellRoute cX11_tellRoute 3 (some .int) [.ref kC, .int (-1)] μ (fun r μ' => r = some (.int (-2)) ∧ μ' = μ) := by
  refine m2_MT.intro (ls := [.ref kC, .int (-1), .null]) (by decide +kernel) rfl (ble rfl) (fun κ' hk' => ?_)
  exact B_X11_tellRoute_0 hk' ⟨fun z => absurd rfl z, fun _ => ⟨rfl, rfl⟩⟩
theorem T_goes {D : Nat} (hD : 406 ≤ D) (x y : Int32) (μ : m2M) (h : REL μ) : stp D yX11_goes cX11_goes 3 (some .int) yX12_goes cX12_goes 6 (some .int) [.int x, .int y] μ REL := by
  obtain ⟨D, rfl⟩ : ∃ E, D = E + 1 := ⟨D - 1, by omega⟩
  obtain ⟨n, p, hR⟩ := id h
  have hR : RLn μ μ n p := hR
  have hn := hR.n20
  have hp := hR.p8
  by_cases ok : in_ p x ∧ in_ 4 y
  · obtain ⟨⟨q, hq, rfl⟩, pl, hpl, rfl⟩ := ok
    by_cases hb : gN μ q = -1
    · refine T_of (some (.int 0)) (tlM μ []) ?_ (fun ν hv => ?_)
      · refine m2_MT.intro (ls := [.ref kC, .int (nI q), .int (nI pl)]) (by decide +kernel) rfl (ble rfl) (fun κ hk => ?_)
        refine B_X11_goes_0 hk (Nat.zero_le _) ⟨fun _ => ⟨fun _ => ⟨vp_in_nI (by omega) (by decide), fun w => absurd hb ((hR.busy hq).mp w), fun _ => ⟨rfl, REL2.tell h rC.i twC.i (ble rfl), twC.i.fr rfl rfl fr.rf⟩⟩, fun z => absurd (isPlan_iff.mpr ⟨pl, hpl, rfl⟩) z⟩, fun z => absurd ((fX6_has_iff hR.2.1.1 hp).mpr ⟨q, hq, rfl⟩) z⟩
      · have hv' := hv.thr
        have g7 : ν.1 kM 7 = nI p := (hv.1 kM 7 rfl rfl).trans hR.2.1.2.1
        have eN : fX12_nextOf (nI q) (m2_si ν kM 22 0) = gN μ q := vM_gN hv'
        refine m2_MT.intro (ls := [.ref kM, .int (nI q), .int (nI pl), .null, .null, .null]) (by decide +kernel) rfl (ble rfl) (fun κ hk => ?_)
        refine B_X12_goes_0 hk (by omega) ⟨fun _ => ⟨fun _ => ⟨vp_in_nI (by omega) (by decide), fun _ => ⟨fun w => absurd (eN.trans hb) w, fun _ => ⟨rfl, hv'.tell rM.i twM.i (ble rfl), twM.i.fr rfl rfl (fr_si rfl fr.rf)⟩⟩, fun w => absurd (eN.trans hb) w⟩, fun z => absurd ((in_k (k := 3) (by decide)).mpr ⟨pl, hpl, rfl⟩) z⟩, fun z => absurd ((fX12_isOne_iff (μ := m2_si ν kM 22 0) g7 hp).mpr ⟨q, hq, rfl⟩) z⟩
    · obtain ⟨eg, hg⟩ := hR.gn hq hb
      refine T_of (match lgO μ n p q pl with | none => some (.int (-2)) | some l => some (.int (nI l.length))) (match lgO μ n p q pl with | none => μ | some l => tlM (gW q l μ) (lL l)) ?_ (fun ν hv => ?_)
      · refine m2_MT.intro (ls := [.ref kC, .int (nI q), .int (nI pl)]) (by decide +kernel) rfl (ble rfl) (fun κ hk => ?_)
        refine B_X11_goes_0 hk (Nat.zero_le _) ⟨fun _ => ⟨fun _ => ⟨vp_in_nI (by omega) (by decide), fun _ => ⟨_, S_leg (by omega) μ μ hR hq hpl hb, fun y14 μ15 r15 => ?_⟩, fun w => absurd ((hR.busy hq).mpr hb) w⟩, fun z => absurd (isPlan_iff.mpr ⟨pl, hpl, rfl⟩) z⟩, fun z => absurd ((fX6_has_iff hR.2.1.1 hp).mpr ⟨q, hq, rfl⟩) z⟩
        obtain ⟨f15, m15⟩ := r15
        revert m15
        cases e : lgO μ n p q pl with
        | none =>
          rintro ⟨m1, m2⟩
          cases m1
          refine ⟨_, S_tellNone μ15, fun y19 μ20 r20 => ?_⟩
          rw [r20.1, r20.2]
          exact ⟨rfl, m2.r, f15.c⟩
        | some l =>
          rintro ⟨m1, m2, m3⟩
          cases m1
          obtain ⟨w1, w2⟩ := wyP_ok hR hq hg (pl := pl) (l := l) e
          refine ⟨_, S_tellRoute (by omega) μ15 (by omega) (fun i d z => ⟨m3 i d z, by have := (w1.2.2 d (List.mem_of_getElem? z)).1; omega⟩), fun y19 μ20 r20 => ?_⟩
          rw [r20.1]
          exact ⟨rfl, REL2.tell m2.r r20.2.1 r20.2.2 (by rw [lL_len]; omega), r20.2.2.fr rfl rfl f15.c⟩
      · have hv' := hv.thr
        have f1 : frM ν (m2_si ν kM 22 0) := fr_si rfl fr.rf
        have g7 : ν.1 kM 7 = nI p := (hv.1 kM 7 rfl rfl).trans hR.2.1.2.1
        have eN : fX12_nextOf (nI q) (m2_si ν kM 22 0) = gN μ q := vM_gN hv'
        refine m2_MT.intro (ls := [.ref kM, .int (nI q), .int (nI pl), .null, .null, .null]) (by decide +kernel) rfl (ble rfl) (fun κ hk => ?_)
        refine B_X12_goes_0 hk (by omega) ⟨fun _ => ⟨fun _ => ⟨vp_in_nI (by omega) (by decide), fun w => absurd (eN.symm.trans w) hb, fun _ => ?_⟩, fun z => absurd ((in_k (k := 3) (by decide)).mpr ⟨pl, hpl, rfl⟩) z⟩, fun z => absurd ((fX12_isOne_iff (μ := m2_si ν kM 22 0) g7 hp).mpr ⟨q, hq, rfl⟩) z⟩
        rw [eN, eg]
        refine ⟨_, S_findPlanned (by omega) μ _ μ hR hv' hq hpl hg, fun y20 μ21 r21 => ?_⟩
        obtain ⟨j21, m21⟩ := r21
        have v21 := j21.v hv'
        have elg : wyP μ n p q pl (gnN μ q) = lgO μ n p q pl := rfl
        rw [elg] at m21
        revert m21
        cases e : lgO μ n p q pl with
        | none =>
          intro m21
          cases m21
          exact ⟨fun w => absurd rfl w, fun _ => ⟨rfl, v21, f1.tr j21.2.m⟩⟩
        | some l =>
          rintro ⟨m1, m2, m3⟩
          cases m1
          obtain ⟨w1, w2⟩ := wyP_ok hR hq hg (pl := pl) (l := l) e
          refine ⟨fun _ => ⟨fun _ => ?_, fun w => absurd w (nI_ne_m1 (by omega))⟩, fun w => absurd w (by decide)⟩
          refine ⟨_, S_tellWay (by omega) (m2_si μ21 kM 21 0) (l := l) (by omega) rM.i m2 (fun i d z => ⟨m3 i d z, by have := (w1.2.2 d (List.mem_of_getElem? z)).1; omega⟩), fun μ28 r28 => ?_⟩
          have t28 := twM.i.tr r28.2.1
          have v28 := v21.tell r28.1 t28 (by rw [lL_len]; omega)
          have f28 : frM ν μ28 := t28.fr rfl rfl (f1.tr j21.2.m)
          have way28 : ∀ i d, l[i]? = some d → μ28.1 kM_way i = nI d := by
            intro i d z
            obtain ⟨g, z', e'⟩ := t28
            rw [e']
            exact m3 i d z
          rw [r28.2.2]
          have walk : ∀ (l' : List Nat) (i : Nat) (ν1 μ0 μ1 : m2M), l.drop i = l' → i ≤ l.length → wkS ν1 n q l' (gnN μ q) → RLn ν1 μ0 n p → vM (tlM ν1 (lL l)) μ1 → frM ν μ1 → gW q l' ν1 = gW q l μ → (∀ j d, l[j]? = some d → μ1.1 kM_way j = nI d) → κ 73 [.ref kM, .int (nI q), .int (nI pl), .int (nI (gnN μ q)), .int (nI l.length), .int (nI i)] [] μ1 := by
            intro l'
            induction l' with
            | nil =>
              intro i ν1 μ0 μ1 hl hi hs hR1 v1 f1 eW hw
              have : l.length ≤ i := List.drop_eq_nil_iff.mp hl
              refine B_X12_goes_73 hk (pk_le l.length i (fun _ => ⟨by rw [e], ?_, f1⟩) (fun w => absurd w (by omega)))
              have eW : ν1 = gW q l μ := eW
              rw [e]
              show vM (tlM (gW q l μ) (lL l)) μ1
              rw [← eW]
              exact v1
            | cons d l' ih =>
              intro i ν1 μ0 μ1 hl hi hs hR1 v1 f1 eW hw
              have hlt : i < l.length := by
                apply Classical.byContradiction
                intro w
                rw [List.drop_eq_nil_iff.mpr (by omega)] at hl
                cases hl
              have e0 : l[i]? = some d := by
                have := congrArg (fun x => x[0]?) hl
                simpa using this
              have e1 : l.drop (i + 1) = l' := by
                have := congrArg List.tail hl
                simpa using this
              obtain ⟨s1, s2, s3, s4⟩ := hs.step hR1 hq
              refine B_X12_goes_73 hk (pk_le l.length i (fun w => absurd w (by omega)) (fun _ => ⟨vp_in_nI (by omega) (by decide), ?_⟩))
              rw [nI_clamp (by omega), hw i d e0, nI_1]
              refine ⟨_, S_goStep (by omega) ν1 (tlM ν1 (lL l)) μ0 μ1 hR1 hq hs (fun c hc => si_nc _ _ _ hc) v1, fun μ5 e5 => ?_⟩
              subst e5
              refine ih (i + 1) (gG ν1 q d) (cG μ0 q d) (gG μ1 q d) e1 (by omega) s4 (hR1.go hq s1 s2 (fun _ => s3)) ?_ (frM_gG f1) eW (fun j d' z => ?_)
              · rw [← gG_tl]
                exact vM_gG v1
              · rw [gG_at (by decide) (by decide) (by decide) (by decide)]
                exact hw j d' z
          have key := walk l 0 μ μ μ28 rfl (Nat.zero_le _) w1 hR v28 f28 rfl way28
          rw [nI_0] at key
          exact key
  · refine T_of (some (.int (-1))) μ ?_ (fun ν hv => ?_)
    · refine m2_MT.intro (ls := [.ref kC, .int x, .int y]) (by decide +kernel) rfl (ble rfl) (fun κ hk => ?_)
      exact B_X11_goes_0 hk (Nat.zero_le _) ⟨fun z => ⟨fun z2 => absurd ⟨(fX6_has_iff hR.2.1.1 hp).mp z, isPlan_iff.mp z2⟩ ok, fun _ => ⟨rfl, h, fr.rf⟩⟩, fun _ => ⟨rfl, h, fr.rf⟩⟩
    · have fin : (some (Value.int (-1)) = some (Value.int (-1)) ∧ vM μ (m2_si ν kM 22 0) ∧ frM ν (m2_si ν kM 22 0)) := ⟨rfl, hv.thr, fr_si rfl fr.rf⟩
      have g7 : ν.1 kM 7 = nI p := (hv.1 kM 7 rfl rfl).trans hR.2.1.2.1
      refine m2_MT.intro (ls := [.ref kM, .int x, .int y, .null, .null, .null]) (by decide +kernel) rfl (ble rfl) (fun κ hk => ?_)
      exact B_X12_goes_0 hk (by omega) ⟨fun z => ⟨fun z2 => absurd ⟨(fX12_isOne_iff (μ := m2_si ν kM 22 0) g7 hp).mp z, (in_k (k := 3) (by decide)).mp z2⟩ ok, fun _ => fin⟩, fun _ => fin⟩
