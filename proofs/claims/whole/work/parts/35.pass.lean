/-! the relation with its numbers; pass -/
def RLn (ν μ : m2M) (n p : Nat) : Prop := r_D ν μ n ∧ r_P ν μ p ∧ r_T ν μ ∧ r_R ν μ ∧ r_S ν μ n ∧ r_K ν μ n p ∧ r_H ν μ ∧ r_V ν μ ∧ r_X ν μ
theorem RLn.r {ν μ : m2M} {n p : Nat} (h : RLn ν μ n p) : REL2 ν μ := ⟨n, p, h⟩
theorem RLn.z {ν μ ν2 μ2 : m2M} {n p : Nat} (q : RLn ν μ n p) (h : agC μ μ2) (g : vM ν ν2) : RLn ν2 μ2 n p := by
  obtain ⟨h1, h2, h3, h4, h5, h6, h7, h8, h9⟩ := q
  exact ⟨z_D h g h1, z_P h g h2, z_T h g h3, z_R h g h4, z_S h g h5, z_K h g h6, z_H h g h7, z_V h g h8, z_X h g h9⟩
theorem RLn.c {ν μ μ2 : m2M} {n p : Nat} (q : RLn ν μ n p) (h : agC μ μ2) : RLn ν μ2 n p := q.z h vM.rf
theorem RLn.left {ν μ : m2M} {n p : Nat} {f g : Nat → Int32} (q : RLn ν μ n p) (h : ∀ d, d < n → f d = g d ∧ in_ 61 (g d)) : RLn (m2_sr ν kM_left g) (m2_sr μ kD_left f) n p := by
  obtain ⟨h1, h2, h3, h4, h5, h6, h7, h8, h9⟩ := q
  refine ⟨⟨h1.1, h1.2.1, h1.2.2.1, fun d hd => ?_⟩, h2, h3, h4, h5, r_K_c (Or.inl (by decide)) (r_K_m rfl h6), h7, h8, h9⟩
  obtain ⟨⟨a1, a2, a3, a4, a5, a6⟩, a7, a8, a9, a10, a11, a12, a13⟩ := h1.2.2.2 d hd
  obtain ⟨b1, b2⟩ := h d hd
  exact ⟨⟨a1, a2, a3, a4, b1, a6⟩, a7, a8, a9, a10, a11, b2, a13⟩
theorem in_pred {k : Nat} {x : Int32} (h : in_ k x) (h0 : x ≠ 0) : in_ k (x - 1) := by
  obtain ⟨a, ha, rfl⟩ := h
  cases a with
  | zero => exact absurd rfl h0
  | succ a => exact ⟨a, by omega, nI_pred a⟩
theorem RLn.spend {ν μ : m2M} {n p q d : Nat} (h : RLn ν μ n p) (hq : q < p) (hd : d < n) (hl : ν.1 kM_isStranger q = 0 → ν.1 kM_left d ≠ 0) : RLn (gS ν q d) (cS μ q d) n p := by
  have hD := h.1.2.2.2 d hd
  have hS : μ.1 kP_stranger q = ν.1 kM_isStranger q := (h.2.1.2.2.2 q hq).1.2.2.1
  unfold gS cS
  rw [hS]
  by_cases z : ν.1 kM_isStranger q = 0
  · rw [if_pos z, if_pos z]
    refine h.left (fun e he => ?_)
    rw [hD.1.2.2.2.2.1]
    unfold upd
    by_cases w : e = d
    · rw [if_pos w, if_pos w]
      exact ⟨rfl, in_pred hD.2.2.2.2.2.2.1 (hl z)⟩
    · rw [if_neg w, if_neg w]
      exact ⟨(h.1.2.2.2 e he).1.2.2.2.2.1, (h.1.2.2.2 e he).2.2.2.2.2.2.1⟩
  · rw [if_neg z, if_neg z]
    exact h
theorem upd_at (f : Nat → Int32) (j : Nat) (x : Int32) : upd f j x j = x := if_pos rfl
theorem upd_ne {f : Nat → Int32} {j i : Nat} {x : Int32} (h : i ≠ j) : upd f j x i = f i := if_neg h
theorem RLn.people {ν μ : m2M} {n p : Nat} {w t o : Nat → Int32} {w' t' o' : Nat → Int32} (h : RLn ν μ n p) (hw : ∀ q, q < p → w' q = w q ∧ t' q = t q ∧ o' q = o q ∧ in_ 12 (w q) ∧ b01 (t q) ∧ b01 (o q) ∧ (ν.1 kM_errand q = -1 → t q = 0 ∧ o q = 0) ∧ ivP (ν.1 kM_errand q) (w q) (t q) (o q) (ν.1 kM_comesBack q) (ν.1 kM_home q)) : RLn (m2_sr (m2_sr (m2_sr ν kM_where w) kM_wasThere t) kM_isDone o) (m2_sr (m2_sr (m2_sr μ kP_where w') kP_reached t') kP_done o') n p := by
  obtain ⟨h1, h2, h3, h4, h5, h6, h7, h8, h9⟩ := h
  refine ⟨h1, ⟨h2.1, h2.2.1, h2.2.2.1, fun q hq => ?_⟩, h3, h4, h5, r_K_c (Or.inl (by decide)) (r_K_c (Or.inl (by decide)) (r_K_c (Or.inl (by decide)) (r_K_m rfl (r_K_m rfl (r_K_m rfl h6))))), h7, h8, h9.1, fun p' q e hp hq => ?_, h9.2.2⟩
  rotate_left
  · have h7p : nI p' = nI p := e.symm.trans h2.2.1
    have hpp := (nI_eq (by omega) (by have := h2.2.2.1; omega)).mp h7p
    exact (hw q (by omega)).2.2.2.2.2.2.2
  obtain ⟨⟨a1, a2, a3, a4, a5, a6, a7, a8⟩, b1, b2, b3, b4, b5, b6, b7, b8, b9⟩ := h2.2.2.2 q hq
  obtain ⟨c1, c2, c3, c4, c5, c6, c7, _⟩ := hw q hq
  exact ⟨⟨c1, a2, a3, a4, a5, a6, c2, c3⟩, c4, b2, b3, b4, b5, b6, c5, c6, c7⟩
theorem RLn.come {ν μ : m2M} {n p q : Nat} {r : Int32} (h : RLn ν μ n p) (hq : q < p) (hr : in_ 12 r) : RLn (gA ν q r) (cA μ q r) n p := by
  have hP := h.2.1.2.2.2 q hq
  obtain ⟨⟨a1, a2, a3, a4, a5, a6, a7, a8⟩, b1, b2, b3, b4, b5, b6, b7, b8, b9⟩ := hP
  have e1 : cRt μ q r = gRt ν q r := by unfold cRt gRt; rw [a5, a7]
  have e2 : cDn μ q r = gDn ν q r := by unfold cDn gDn; rw [e1, a6, a2, a8]
  have t1 : b01 (gRt ν q r) := by
    unfold gRt
    by_cases z : ν.1 kM_errand q = r
    · rw [if_pos z]; exact Or.inr rfl
    · rw [if_neg z]; exact b7
  have t2 : b01 (gDn ν q r) := by
    unfold gDn
    by_cases z : gRt ν q r = 1 ∧ (ν.1 kM_comesBack q = 0 ∨ r = ν.1 kM_home q)
    · rw [if_pos z]; exact Or.inr rfl
    · rw [if_neg z]; exact b8
  have t3 : ν.1 kM_errand q = -1 → gRt ν q r = 0 ∧ gDn ν q r = 0 := by
    intro z
    have z1 : gRt ν q r = 0 := by
      refine (if_neg ?_).trans (b9 z).1
      intro w
      obtain ⟨a, ha, rfl⟩ := hr
      exact nI_ne_m1 (a := a) (by omega) (w.symm.trans z)
    exact ⟨z1, (if_neg (fun w => by rw [z1] at w; exact absurd w.1 (by decide))).trans (b9 z).2⟩
  have := RLn.people (w := upd (ν.1 kM_where) q r) (t := upd (ν.1 kM_wasThere) q (gRt ν q r)) (o := upd (ν.1 kM_isDone) q (gDn ν q r)) (w' := upd (μ.1 kP_where) q r) (t' := upd (μ.1 kP_reached) q (cRt μ q r)) (o' := upd (μ.1 kP_done) q (cDn μ q r)) h ?_
  · exact this
  · intro q' hq'
    by_cases w : q' = q
    · subst w
      simp only [upd_at]
      refine ⟨trivial, e1, e2, hr, t1, t2, t3, fun _ => ⟨fun z => ?_, fun z1 z2 => ?_⟩⟩
      · exact if_pos z.symm
      · exact if_pos ⟨z1, z2⟩
    · simp only [upd_ne w]
      obtain ⟨⟨a1, a2, a3, a4, a5, a6, a7, a8⟩, b1, b2, b3, b4, b5, b6, b7, b8, b9⟩ := h.2.1.2.2.2 q' hq'
      exact ⟨a1, a7, a8, b1, b7, b8, b9, h.2.2.2.2.2.2.2.2.2.1 p q' h.2.1.2.1 h.2.1.2.2.1 hq'⟩
theorem gS_ne {ν : m2M} {q d c : Nat} (h : c ≠ kM_left) : (gS ν q d).1 c = ν.1 c := by
  unfold gS
  by_cases z : ν.1 kM_isStranger q = 0
  · rw [if_pos z]; exact m2_sr_ne _ _ h
  · rw [if_neg z]
theorem cS_ne {ν : m2M} {q d c : Nat} (h : c ≠ kD_left) : (cS ν q d).1 c = ν.1 c := by
  unfold cS
  by_cases z : ν.1 kP_stranger q = 0
  · rw [if_pos z]; exact m2_sr_ne _ _ h
  · rw [if_neg z]
theorem RLn.bey {ν μ : m2M} {n p q d : Nat} (h : RLn ν μ n p) (hq : q < p) (hd : d < n) : fX0_beyond (nI d) (μ.1 kP_where q) μ = gB ν q d := by
  have hn : n ≤ 20 := h.1.2.2.1
  obtain ⟨⟨a1, a2, a3, a4, a5, a6⟩, a7⟩ := h.1.2.2.2 d hd
  unfold gB fX0_beyond fX12_beyond
  rw [nI_clamp (by omega), a1, a2, a3, (h.2.1.2.2.2 q hq).1.1]
theorem RLn.bin {ν μ : m2M} {n p q d : Nat} (h : RLn ν μ n p) (hd : d < n) (hb : gB ν q d ≠ -1) : in_ 12 (gB ν q d) := by
  have hn : n ≤ 20 := h.1.2.2.1
  obtain ⟨⟨a1, a2, a3, a4, a5, a6⟩, a7, a8, a9⟩ := h.1.2.2.2 d hd
  revert hb
  unfold gB fX12_beyond
  rw [nI_clamp (by omega)]
  by_cases z1 : ν.1 kM_doorA d = ν.1 kM_where q
  · rw [if_pos z1]; exact fun _ => a8
  · rw [if_neg z1]
    by_cases z2 : ν.1 kM_doorB d = ν.1 kM_where q
    · rw [if_pos z2]
      by_cases z3 : ν.1 kM_isOneWay d = 0
      · rw [if_pos z3]; exact fun _ => a7
      · rw [if_neg z3]; exact fun w => absurd rfl w
    · rw [if_neg z2]; exact fun w => absurd rfl w
theorem RLn.go {ν μ : m2M} {n p q d : Nat} (h : RLn ν μ n p) (hq : q < p) (hd : d < n) (hb : gB ν q d ≠ -1) (hl : ν.1 kM_isStranger q = 0 → ν.1 kM_left d ≠ 0) : RLn (gG ν q d) (cG μ q d) n p := by
  unfold gG cG
  rw [h.bey hq hd]
  exact (h.spend hq hd hl).come hq (h.bin hd hb)
theorem frC_cS {μ ρ : m2M} {q d : Nat} (h : frC ρ μ) : frC ρ (cS μ q d) := by
  unfold cS
  by_cases z : μ.1 kP_stranger q = 0
  · rw [if_pos z]; exact fr_si rfl h
  · rw [if_neg z]; exact h
theorem frC_cG {μ ρ : m2M} {q d : Nat} (h : frC ρ μ) : frC ρ (cG μ q d) := fr_si rfl (fr_si rfl (fr_si rfl (frC_cS h)))
theorem frM_gS {μ ρ : m2M} {q d : Nat} (h : frM ρ μ) : frM ρ (gS μ q d) := by
  unfold gS
  by_cases z : μ.1 kM_isStranger q = 0
  · rw [if_pos z]; exact fr_si rfl h
  · rw [if_neg z]; exact h
theorem frM_gG {μ ρ : m2M} {q d : Nat} (h : frM ρ μ) : frM ρ (gG μ q d) := fr_si rfl (fr_si rfl (fr_si rfl (frM_gS h)))
theorem vM_gS {ν μ : m2M} {q d : Nat} (h : vM ν μ) : vM (gS ν q d) (gS μ q d) := by
  unfold gS
  rw [h.1 kM_isStranger q rfl rfl, h.1 kM_left d rfl rfl]
  by_cases z : ν.1 kM_isStranger q = 0
  · rw [if_pos z, if_pos z]; exact h.si rfl
  · rw [if_neg z, if_neg z]; exact h
theorem vM_gA {ν μ : m2M} {q : Nat} {r : Int32} (h : vM ν μ) : vM (gA ν q r) (gA μ q r) := by
  have e1 : gRt μ q r = gRt ν q r := by unfold gRt; rw [h.1 kM_errand q rfl rfl, h.1 kM_wasThere q rfl rfl]
  have e2 : gDn μ q r = gDn ν q r := by unfold gDn; rw [e1, h.1 kM_comesBack q rfl rfl, h.1 kM_home q rfl rfl, h.1 kM_isDone q rfl rfl]
  unfold gA
  rw [e1, e2]
  exact ((h.si rfl).si rfl).si rfl
theorem vM_gB {ν μ : m2M} {q d : Nat} (h : vM ν μ) : gB μ q d = gB ν q d := by
  unfold gB fX12_beyond
  rw [h.1 kM_where q rfl rfl, h.1 kM_doorA _ rfl rfl, h.1 kM_doorB _ rfl rfl, h.1 kM_isOneWay _ rfl rfl]
theorem vM_gG {ν μ : m2M} {q d : Nat} (h : vM ν μ) : vM (gG ν q d) (gG μ q d) := by
  unfold gG
  rw [vM_gB h]
  exact vM_gA (vM_gS h)
theorem T_pass {D : Nat} (hD : 3 ≤ D) (x y : Int32) (μ : m2M) (h : REL μ) : stp D yX11_pass cX11_pass 3 (some .int) yX12_pass cX12_pass 3 (some .int) [.int x, .int y] μ REL := by
  obtain ⟨D, rfl⟩ : ∃ E, D = E + 1 := ⟨D - 1, by omega⟩
  obtain ⟨n, p, hR⟩ := id h
  have hR : RLn μ μ n p := hR
  have hn : n ≤ 20 := hR.1.2.2.1
  have hp : p ≤ 8 := hR.2.1.2.2.1
  by_cases ok : in_ p x ∧ in_ n y
  · obtain ⟨⟨q, hq, rfl⟩, d, hd, rfl⟩ := ok
    have D1 := hR.1.2.2.2 d hd
    have P1 := hR.2.1.2.2.2 q hq
    by_cases ok2 : gB μ q d ≠ -1 ∧ μ.1 kM_left d ≠ 0
    · refine T_of (some (.int ((gG μ q d).1 kM_left d))) (gG μ q d) ?_ (fun ν hv => ?_)
      · refine m2_MT.intro (ls := [.ref kC, .int (nI q), .int (nI d)]) (by decide +kernel) rfl (ble rfl) (fun κ hk => ?_)
        refine B_X11_pass_0 hk (Nat.zero_le _) ⟨fun _ => ⟨fun _ => ⟨vp_in_nI (by omega) (by decide), ?_⟩, fun z => absurd ((fX0_has_iff hR.1.1 hn).mpr ⟨d, hd, rfl⟩) z⟩, fun z => absurd ((fX6_has_iff hR.2.1.1 hp).mpr ⟨q, hq, rfl⟩) z⟩
        rw [nI_clamp (by omega), nI_clamp (by omega), hR.bey hq hd, D1.1.2.2.2.2.1]
        refine ⟨fun z => ?_, fun _ => ⟨vp_in_nI (by omega) (by decide), fun _ => ⟨_, S_goThrough (by omega) (by omega) (by omega) μ ?_ ?_ ?_, fun μ18 e18 => ?_⟩, fun z => absurd z ok2.1⟩⟩
        · obtain ⟨a, ha, e⟩ := D1.2.2.2.2.2.2.1
          rw [e] at z
          exact absurd ((nI_leI (b := 0) (by omega) (by decide)).mp z) (fun w => ok2.2 (by rw [e, show a = 0 by omega]; rfl))
        · rw [P1.1.2.2.2.2.2.2.1]; exact P1.2.2.2.2.2.2.2.1
        · rw [P1.1.2.2.2.2.2.2.2]; exact P1.2.2.2.2.2.2.2.2.1
        · rw [hR.bey hq hd]; exact ok2.1
        · subst e18
          have hG := hR.go hq hd ok2.1 (fun _ => ok2.2)
          exact ⟨by rw [(hG.1.2.2.2 d hd).1.2.2.2.2.1], hG.r, frC_cG fr.rf⟩
      · have hv' := hv.thr
        have f1 : frM ν (m2_si ν kM 22 0) := fr_si rfl fr.rf
        have g0 : ν.1 kM 0 = nI n := (hv.1 kM 0 rfl rfl).trans hR.1.2.1
        have g7 : ν.1 kM 7 = nI p := (hv.1 kM 7 rfl rfl).trans hR.2.1.2.1
        have eB : fX12_beyond (nI d) (ν.1 kM_where q) (m2_si ν kM 22 0) = gB μ q d := vM_gB (q := q) (d := d) hv'
        refine m2_MT.intro (ls := [.ref kM, .int (nI q), .int (nI d)]) (by decide +kernel) rfl (ble rfl) (fun κ hk => ?_)
        refine B_X12_pass_0 hk (by omega) ⟨fun _ => ⟨fun _ => ⟨vp_in_nI (by omega) (by decide), vp_in_nI (by omega) (by decide), ?_⟩, fun z => absurd ((fX12_isDoor_iff (μ := m2_si ν kM 22 0) g0 hn).mpr ⟨d, hd, rfl⟩) z⟩, fun z => absurd ((fX12_isOne_iff (μ := m2_si ν kM 22 0) g7 hp).mpr ⟨q, hq, rfl⟩) z⟩
        rw [nI_clamp (by omega), nI_clamp (by omega), eB, hv.1 kM_left d rfl rfl]
        refine ⟨fun z => absurd z ok2.1, fun _ => ⟨fun _ => ⟨_, S_go (by omega) (by omega) (by omega) (m2_si ν kM 22 0) ?_ ?_ ?_ ?_, fun μ18 e18 => ?_⟩, fun z => absurd z ok2.2⟩⟩
        · rw [vM_gB hv']; exact ok2.1
        · rw [hv'.1 kM_errand q rfl rfl, hv'.1 kM_wasThere q rfl rfl]; exact fun z => (P1.2.2.2.2.2.2.2.2.2 z).1
        · rw [hv'.1 kM_wasThere q rfl rfl]; exact P1.2.2.2.2.2.2.2.1
        · rw [hv'.1 kM_isDone q rfl rfl]; exact P1.2.2.2.2.2.2.2.2.1
        · subst e18
          have hG := vM_gG (q := q) (d := d) hv'
          exact ⟨by rw [hG.1 kM_left d rfl rfl], hG, frM_gG f1⟩
    · refine T_of (some (.int (-2))) μ ?_ (fun ν hv => ?_)
      · refine m2_MT.intro (ls := [.ref kC, .int (nI q), .int (nI d)]) (by decide +kernel) rfl (ble rfl) (fun κ hk => ?_)
        refine B_X11_pass_0 hk (Nat.zero_le _) ⟨fun _ => ⟨fun _ => ⟨vp_in_nI (by omega) (by decide), ?_⟩, fun z => absurd ((fX0_has_iff hR.1.1 hn).mpr ⟨d, hd, rfl⟩) z⟩, fun z => absurd ((fX6_has_iff hR.2.1.1 hp).mpr ⟨q, hq, rfl⟩) z⟩
        rw [nI_clamp (by omega), nI_clamp (by omega), hR.bey hq hd, D1.1.2.2.2.2.1]
        refine ⟨fun _ => ⟨rfl, h, fr.rf⟩, fun z => ⟨vp_in_nI (by omega) (by decide), fun z2 => ?_, fun _ => ⟨rfl, h, fr.rf⟩⟩⟩
        refine absurd ⟨z2, fun w => z ?_⟩ ok2
        rw [w]; decide
      · have hv' := hv.thr
        have f1 : frM ν (m2_si ν kM 22 0) := fr_si rfl fr.rf
        have g0 : ν.1 kM 0 = nI n := (hv.1 kM 0 rfl rfl).trans hR.1.2.1
        have g7 : ν.1 kM 7 = nI p := (hv.1 kM 7 rfl rfl).trans hR.2.1.2.1
        have eB : fX12_beyond (nI d) (ν.1 kM_where q) (m2_si ν kM 22 0) = gB μ q d := vM_gB (q := q) (d := d) hv'
        refine m2_MT.intro (ls := [.ref kM, .int (nI q), .int (nI d)]) (by decide +kernel) rfl (ble rfl) (fun κ hk => ?_)
        refine B_X12_pass_0 hk (by omega) ⟨fun _ => ⟨fun _ => ⟨vp_in_nI (by omega) (by decide), vp_in_nI (by omega) (by decide), ?_⟩, fun z => absurd ((fX12_isDoor_iff (μ := m2_si ν kM 22 0) g0 hn).mpr ⟨d, hd, rfl⟩) z⟩, fun z => absurd ((fX12_isOne_iff (μ := m2_si ν kM 22 0) g7 hp).mpr ⟨q, hq, rfl⟩) z⟩
        rw [nI_clamp (by omega), nI_clamp (by omega), eB, hv.1 kM_left d rfl rfl]
        exact ⟨fun _ => ⟨rfl, hv', f1⟩, fun z => ⟨fun z2 => absurd ⟨z, z2⟩ ok2, fun _ => ⟨rfl, hv', f1⟩⟩⟩
  · refine T_of (some (.int (-1))) μ ?_ (fun ν hv => ?_)
    · refine m2_MT.intro (ls := [.ref kC, .int x, .int y]) (by decide +kernel) rfl (ble rfl) (fun κ hk => ?_)
      exact B_X11_pass_0 hk (Nat.zero_le _) ⟨fun z => ⟨fun z2 => absurd ⟨(fX6_has_iff hR.2.1.1 hp).mp z, (fX0_has_iff hR.1.1 hn).mp z2⟩ ok, fun _ => ⟨rfl, h, fr.rf⟩⟩, fun _ => ⟨rfl, h, fr.rf⟩⟩
    · have hv' := hv.thr
      have f1 : frM ν (m2_si ν kM 22 0) := fr_si rfl fr.rf
      have g0 : ν.1 kM 0 = nI n := (hv.1 kM 0 rfl rfl).trans hR.1.2.1
      have g7 : ν.1 kM 7 = nI p := (hv.1 kM 7 rfl rfl).trans hR.2.1.2.1
      refine m2_MT.intro (ls := [.ref kM, .int x, .int y]) (by decide +kernel) rfl (ble rfl) (fun κ hk => ?_)
      exact B_X12_pass_0 hk (by omega) ⟨fun z => ⟨fun z2 => absurd ⟨(fX12_isOne_iff (μ := m2_si ν kM 22 0) g7 hp).mp z, (fX12_isDoor_iff (μ := m2_si ν kM 22 0) g0 hn).mp z2⟩ ok, fun _ => ⟨rfl, hv', f1⟩⟩, fun _ => ⟨rfl, hv', f1⟩⟩
