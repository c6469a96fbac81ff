/-! PEOPLE move -/
theorem nar_b {x : Int32} (h : b01 x) : vp_nar .boolean x = x := by
  rcases h with rfl | rfl <;> rfl
theorem nar_1 : vp_nar .boolean 1 = 1 := rfl
theorem nar_0 : vp_nar .boolean 0 = 0 := rfl
theorem nar_if {c : Prop} [Decidable c] : vp_nar .boolean (if c then 1 else 0) = if c then 1 else 0 := by
  by_cases h : c
  · rw [if_pos h]; rfl
  · rw [if_neg h]; rfl
theorem m2_si_id {μ : m2M} {c j : Nat} {x : Int32} (h : μ.1 c j = x) : m2_si μ c j x = μ := by
  unfold m2_si
  rw [show upd (μ.1 c) j x = μ.1 c from ?_]
  · exact m2_sr_id μ c
  · funext i
    unfold upd
    by_cases e : i = j
    · rw [if_pos e, e, h]
    · rw [if_neg e]
/-- one is in a ROOM: of the reference, of the class -/
def gRt (ν : m2M) (q : Nat) (r : Int32) : Int32 := if ν.1 kM_errand q = r then 1 else ν.1 kM_wasThere q
def gDn (ν : m2M) (q : Nat) (r : Int32) : Int32 := if gRt ν q r = 1 ∧ (ν.1 kM_comesBack q = 0 ∨ r = ν.1 kM_home q) then 1 else ν.1 kM_isDone q
def gA (ν : m2M) (q : Nat) (r : Int32) : m2M := m2_si (m2_si (m2_si ν kM_where q r) kM_wasThere q (gRt ν q r)) kM_isDone q (gDn ν q r)
def gS (ν : m2M) (q d : Nat) : m2M := if ν.1 kM_isStranger q = 0 then m2_si ν kM_left d (ν.1 kM_left d - 1) else ν
def cRt (μ : m2M) (q : Nat) (r : Int32) : Int32 := if μ.1 kP_errand q = r then 1 else μ.1 kP_reached q
def cDn (μ : m2M) (q : Nat) (r : Int32) : Int32 := if cRt μ q r = 1 ∧ (μ.1 kP_back q = 0 ∨ r = μ.1 kP_first q) then 1 else μ.1 kP_done q
def cA (μ : m2M) (q : Nat) (r : Int32) : m2M := m2_si (m2_si (m2_si μ kP_where q r) kP_reached q (cRt μ q r)) kP_done q (cDn μ q r)
def cS (μ : m2M) (q d : Nat) : m2M := if μ.1 kP_stranger q = 0 then m2_si μ kD_left d (μ.1 kD_left d - 1) else μ
theorem S_come {D q : Nat} (hq : q < 8) (r : Int32) (μ : m2M) (hR : b01 (μ.1 kP_reached q)) (hD : b01 (μ.1 kP_done q)) : m2_MT D yX6_come cX6_come 3 none [.ref kP, .int (nI q), .int r] μ (fun _ μ' => μ' = cA μ q r) := by
  refine m2_MT.intro (ls := [.ref kP, .int (nI q), .int r]) (by decide +kernel) rfl (ble rfl) (fun κ hk => ?_)
  refine B_X6_come_0 hk ⟨vp_in_nI hq (by decide), ?_⟩
  rw [nI_clamp (by omega), nar_1]
  have e1 : ∀ x : Int32, (m2_si (m2_si μ kP_where q r) kP_reached q x).1 kP_reached q = x := fun x => if_pos rfl
  have e2 : m2_si (m2_si μ kP_where q r) kP_reached q (μ.1 kP_reached q) = m2_si μ kP_where q r := m2_si_id rfl
  have e3 : ∀ x : Int32, m2_si (m2_si (m2_si μ kP_where q r) kP_reached q x) kP_done q (μ.1 kP_done q) = m2_si (m2_si μ kP_where q r) kP_reached q x := fun x => m2_si_id rfl
  rw [e1]
  unfold cA
  refine ⟨fun a => ⟨fun b => ?_, fun b => ⟨fun c => ?_, fun c => ⟨fun d => ?_, fun d => ?_⟩⟩⟩, fun a => ⟨fun b => absurd b (by decide), fun b => ⟨fun c => ?_, fun c => ⟨fun d => ?_, fun d => ?_⟩⟩⟩⟩
  · have z1 : cRt μ q r = μ.1 kP_reached q := if_neg a
    have z2 : cDn μ q r = μ.1 kP_done q := if_neg (fun z => by rw [z1, b] at z; exact absurd z.1 (by decide))
    rw [z1, z2, e3, e2]
  · have z1 : cRt μ q r = μ.1 kP_reached q := if_neg a
    have z2 : cDn μ q r = 1 := if_pos ⟨by rw [z1]; exact hR.resolve_left b, Or.inl c⟩
    rw [z1, z2, e2]
  · have z1 : cRt μ q r = μ.1 kP_reached q := if_neg a
    have z2 : cDn μ q r = μ.1 kP_done q := if_neg (fun z => z.2.elim c d)
    rw [z1, z2, e3, e2]
  · have z1 : cRt μ q r = μ.1 kP_reached q := if_neg a
    have z2 : cDn μ q r = 1 := if_pos ⟨by rw [z1]; exact hR.resolve_left b, Or.inr d⟩
    rw [z1, z2, e2]
  · have z1 : cRt μ q r = 1 := if_pos a
    have z2 : cDn μ q r = 1 := if_pos ⟨z1, Or.inl c⟩
    rw [z1, z2]
  · have z1 : cRt μ q r = 1 := if_pos a
    have z2 : cDn μ q r = μ.1 kP_done q := if_neg (fun z => z.2.elim c d)
    rw [z1, z2, e3]
  · have z1 : cRt μ q r = 1 := if_pos a
    have z2 : cDn μ q r = 1 := if_pos ⟨z1, Or.inr d⟩
    rw [z1, z2]
theorem S_arrive {D q : Nat} (hq : q < 8) (ν : m2M) (r : Int32) (hr : ν.1 kM_where q = r) (hr2 : r ≠ -1) (hE : ν.1 kM_errand q = -1 → ν.1 kM_wasThere q = 0) (hR : b01 (ν.1 kM_wasThere q)) (hD : b01 (ν.1 kM_isDone q)) : m2_MT D yX12_arrive cX12_arrive 2 none [.ref kM, .int (nI q)] ν (fun _ ν' => ν' = gA ν q r) := by
  refine m2_MT.intro (ls := [.ref kM, .int (nI q)]) (by decide +kernel) rfl (ble rfl) (fun κ hk => ?_)
  refine B_X12_arrive_0 hk ⟨vp_in_nI hq (by decide), ?_⟩
  rw [nI_clamp (by omega), nar_1, nar_0, nar_if, nar_if, hr]
  have e1 : ∀ x : Int32, (m2_si ν kM_wasThere q x).1 kM_wasThere q = x := fun x => if_pos rfl
  have e0 : m2_si ν kM_where q r = ν := m2_si_id hr
  have e2 : m2_si ν kM_wasThere q (ν.1 kM_wasThere q) = ν := m2_si_id rfl
  have e3 : ∀ x : Int32, m2_si (m2_si ν kM_wasThere q x) kM_isDone q (ν.1 kM_isDone q) = m2_si ν kM_wasThere q x := fun x => m2_si_id rfl
  rw [e1, e1]
  unfold gA
  rw [e0]
  have R1 : ¬ ν.1 kM_wasThere q = 0 → ν.1 kM_wasThere q = 1 := hR.resolve_left
  have D1 : ¬ ν.1 kM_isDone q = 0 → ν.1 kM_isDone q = 1 := hD.resolve_left
  have gr : gRt ν q r = if ν.1 kM_wasThere q = 0 then (if r = ν.1 kM_errand q then 1 else 0) else 1 := by
    unfold gRt
    by_cases a : ν.1 kM_wasThere q = 0
    · rw [if_pos a, a]
      by_cases b : ν.1 kM_errand q = r
      · rw [if_pos b, if_pos b.symm]
      · rw [if_neg b, if_neg (Ne.symm b)]
    · rw [if_neg a, R1 a]
      by_cases b : ν.1 kM_errand q = r
      · rw [if_pos b]
      · rw [if_neg b]
  have gd : gDn ν q r = if ν.1 kM_isDone q = 0 then (if gRt ν q r = 1 ∧ (ν.1 kM_comesBack q = 0 ∨ r = ν.1 kM_home q) then 1 else 0) else 1 := by
    unfold gDn
    by_cases a : ν.1 kM_isDone q = 0
    · rw [if_pos a, a]
    · rw [if_neg a, D1 a]
      by_cases b : gRt ν q r = 1 ∧ (ν.1 kM_comesBack q = 0 ∨ r = ν.1 kM_home q)
      · rw [if_pos b]
      · rw [if_neg b]
  refine ⟨fun a => ⟨fun b => ⟨fun c => ?_, fun c => ⟨fun d => absurd d (by decide), fun _ => ⟨fun d => ?_, fun d => ?_⟩⟩⟩, fun b => ⟨fun c => ?_, fun c => ⟨fun d => ?_, fun d => ⟨fun e => ?_, fun e => ?_⟩⟩⟩⟩, fun a => ?_⟩
  · rw [gd, if_neg c, gr, if_neg b]
  · rw [gd, if_pos c, gr, if_neg b, if_pos ⟨rfl, Or.inl d⟩]
  · rw [gd, if_pos c, gr, if_neg b]
    by_cases z : r = ν.1 kM_home q
    · rw [if_pos z, if_pos ⟨rfl, Or.inr z⟩]
    · rw [if_neg z, if_neg (fun w => w.2.elim d z)]
  · rw [gd, if_neg c, gr, if_pos b]
  · rw [gd, if_pos c, gr, if_pos b]
    rw [d]
    rw [if_neg (fun w => absurd w.1 (by decide))]
  · have d' : (if r = ν.1 kM_errand q then (1 : Int32) else 0) = 1 := by
      by_cases z : r = ν.1 kM_errand q
      · rw [if_pos z]
      · rw [if_neg z] at d; exact absurd rfl d
    rw [gd, if_pos c, gr, if_pos b, d', if_pos ⟨rfl, Or.inl e⟩]
  · have d' : (if r = ν.1 kM_errand q then (1 : Int32) else 0) = 1 := by
      by_cases z : r = ν.1 kM_errand q
      · rw [if_pos z]
      · rw [if_neg z] at d; exact absurd rfl d
    rw [gd, if_pos c, gr, if_pos b, d']
    by_cases z : r = ν.1 kM_home q
    · rw [if_pos z, if_pos ⟨rfl, Or.inr z⟩]
    · rw [if_neg z, if_neg (fun w => w.2.elim e z)]
  · have z1 : gRt ν q r = ν.1 kM_wasThere q := if_neg (fun w => hr2 (by rw [← w, a]))
    have z2 : gDn ν q r = ν.1 kM_isDone q := if_neg (fun w => by rw [z1, hE a] at w; exact absurd w.1 (by decide))
    rw [z1, z2, e3, e2]
/-- going through a DOOR -/
def gB (ν : m2M) (q d : Nat) : Int32 := fX12_beyond (nI d) (ν.1 kM_where q) ν
def gG (ν : m2M) (q d : Nat) : m2M := gA (gS ν q d) q (gB ν q d)
def cG (μ : m2M) (q d : Nat) : m2M := cA (cS μ q d) q (fX0_beyond (nI d) (μ.1 kP_where q) μ)
theorem S_goThrough {D q d : Nat} (hD : 1 ≤ D) (hq : q < 8) (hd : d < 20) (μ : m2M) (hR : b01 (μ.1 kP_reached q)) (hO : b01 (μ.1 kP_done q)) (hb : fX0_beyond (nI d) (μ.1 kP_where q) μ ≠ -1) : m2_MT D yX10_goThrough cX10_goThrough 4 none [.ref kW, .int (nI q), .int (nI d)] μ (fun _ μ' => μ' = cG μ q d) := by
  obtain ⟨D, rfl⟩ : ∃ E, D = E + 1 := ⟨D - 1, by omega⟩
  refine m2_MT.intro (ls := [.ref kW, .int (nI q), .int (nI d), .null]) (by decide +kernel) rfl (ble rfl) (fun κ hk => ?_)
  refine B_X10_goThrough_0 hk (Nat.zero_le _) ⟨vp_in_nI hq (by decide), vp_in_nI hd (by decide), ?_⟩
  rw [nI_clamp (by omega)]
  refine ⟨fun z => absurd z hb, fun _ => ⟨fun _ μ' => μ' = cS μ q d, ?_, fun μ8 e8 => ?_⟩⟩
  · refine m2_MT.intro (ls := [.ref kW, .int (nI q), .int (nI d)]) (by decide +kernel) rfl (ble rfl) (fun κ' hk' => ?_)
    refine B_X10_spend_0 hk' ⟨vp_in_nI hq (by decide), ?_⟩
    rw [nI_clamp (by omega), nI_clamp (by omega)]
    refine ⟨fun z => ?_, fun z => ⟨vp_in_nI hd (by decide), ?_⟩⟩
    · unfold cS; rw [if_neg z]
    · unfold cS; rw [if_pos z]
  · subst e8
    have e : (∀ c, c ≠ kD_left → (cS μ q d).1 c = μ.1 c) := by
      intro c hc
      unfold cS
      by_cases z : μ.1 kP_stranger q = 0
      · rw [if_pos z]; exact m2_sr_ne _ _ hc
      · rw [if_neg z]
    refine ⟨_, S_come hq _ (cS μ q d) ?_ ?_, fun μ13 e13 => ?_⟩
    · rw [e _ (by decide)]; exact hR
    · rw [e _ (by decide)]; exact hO
    · exact e13
theorem S_go {D q d : Nat} (hD : 1 ≤ D) (hq : q < 8) (hd : d < 20) (ν : m2M) (hb : gB ν q d ≠ -1) (hE : ν.1 kM_errand q = -1 → ν.1 kM_wasThere q = 0) (hR : b01 (ν.1 kM_wasThere q)) (hO : b01 (ν.1 kM_isDone q)) : m2_MT D yX12_go cX12_go 3 none [.ref kM, .int (nI q), .int (nI d)] ν (fun _ ν' => ν' = gG ν q d) := by
  obtain ⟨D, rfl⟩ : ∃ E, D = E + 1 := ⟨D - 1, by omega⟩
  refine m2_MT.intro (ls := [.ref kM, .int (nI q), .int (nI d)]) (by decide +kernel) rfl (ble rfl) (fun κ hk => ?_)
  refine B_X12_go_0 hk (Nat.zero_le _) ⟨vp_in_nI hq (by decide), vp_in_nI hd (by decide), ?_⟩
  rw [nI_clamp (by omega), nI_clamp (by omega)]
  refine ⟨fun z => ⟨_, S_arrive hq (m2_si ν kM_where q (gB ν q d)) (gB ν q d) (if_pos rfl) hb hE hR hO, fun ν' e => ?_⟩, fun z => ⟨_, S_arrive hq (m2_si (m2_si ν kM_where q (gB ν q d)) kM_left d (ν.1 kM_left d - 1)) (gB ν q d) (if_pos rfl) hb hE hR hO, fun ν' e => ?_⟩⟩
  · rw [e]
    unfold gG gS
    rw [if_neg z]
    show m2_si (m2_si (m2_si (m2_si ν kM_where q _) kM_where q _) kM_wasThere q _) kM_isDone q _ = m2_si (m2_si (m2_si ν kM_where q _) kM_wasThere q _) kM_isDone q _
    rw [m2_si_si]
    rfl
  · rw [e]
    unfold gG gS
    rw [if_pos z]
    show m2_si (m2_si (m2_si (m2_si (m2_si ν kM_where q _) kM_left d _) kM_where q _) kM_wasThere q _) kM_isDone q _ = m2_si (m2_si (m2_si (m2_si ν kM_left d _) kM_where q _) kM_wasThere q _) kM_isDone q _
    rw [m2_si_comm ν (show kM_where ≠ kM_left by decide), m2_si_si]
    rfl
