def dvV (μ : m2M) (a : Nat) (w : Int32) : Int32 := if w = 0 then μ.1 kM_doorA a else if w = 1 then μ.1 kM_doorB a else if w = 2 then (if μ.1 kM_isOneWay a = 0 then 0 else 1) else if w = 3 then μ.1 kM_lets a else if w = 4 then μ.1 kM_left a else μ.1 kM_atNoon a
theorem T_door {D : Nat} (hD : 7 ≤ D) (x w : Int32) (μ : m2M) (h : REL μ) : stpx D yL_door cL_door 5 [(0, 10, 13, 13)] yX12_door cX12_door 3 (some .int) [.int x, .int w] μ := by
  obtain ⟨D, rfl⟩ : ∃ E, D = E + 1 + 1 := ⟨D - 2, by omega⟩
  obtain ⟨n, p, h1, h2, h3, h4, h5, h6, h7, h8, h9⟩ := id h
  obtain ⟨d1, d2, d3, d4⟩ := h1
  have c0 : ∀ ν : m2M, ν.1 = μ.1 → (m2_si ν kM 22 0).1 kM 0 = nI n := fun ν e => by rw [si_nj _ _ _ (by decide), e]; exact d2
  by_cases ok : in_ n x ∧ in_ 6 w
  · obtain ⟨⟨a, ha, rfl⟩, b, hb, hwb⟩ := id ok
    obtain ⟨⟨e1, e2, e3, e4, e5, e6⟩, -⟩ := d4 a ha
    have V0 : w = 0 → dvV μ a w = μ.1 kM_doorA a := fun q => if_pos q
    have V1 : ¬ w = 0 → w = 1 → dvV μ a w = μ.1 kM_doorB a := fun q0 q => by unfold dvV; rw [if_neg q0, if_pos q]
    have V2 : ¬ w = 0 → ¬ w = 1 → w = 2 → dvV μ a w = (if μ.1 kM_isOneWay a = 0 then 0 else 1) := fun q0 q1 q => by unfold dvV; rw [if_neg q0, if_neg q1, if_pos q]
    have V3 : ¬ w = 0 → ¬ w = 1 → ¬ w = 2 → w = 3 → dvV μ a w = μ.1 kM_lets a := fun q0 q1 q2 q => by unfold dvV; rw [if_neg q0, if_neg q1, if_neg q2, if_pos q]
    have V4 : ¬ w = 0 → ¬ w = 1 → ¬ w = 2 → ¬ w = 3 → w = 4 → dvV μ a w = μ.1 kM_left a := fun q0 q1 q2 q3 q => by unfold dvV; rw [if_neg q0, if_neg q1, if_neg q2, if_neg q3, if_pos q]
    have V5 : ¬ w = 0 → ¬ w = 1 → ¬ w = 2 → ¬ w = 3 → ¬ w = 4 → dvV μ a w = μ.1 kM_atNoon a := fun q0 q1 q2 q3 q4 => by unfold dvV; rw [if_neg q0, if_neg q1, if_neg q2, if_neg q3, if_neg q4]
    have hv : vp_in (nI a) 20 := vp_in_nI (by omega) (by decide)
    have hM : m2_MX (D + 1) yX11_door cX11_door 3 (some .int) [.ref kC, .int (nI a), .int w] μ (fun v μ' => v = some (.int (dvV μ a w)) ∧ μ' = μ) (fun _ => False) := by
      refine m2_MX.intro (ls := [.ref kC, .int (nI a), .int w]) (by decide +kernel) rfl (ble rfl) (fun κ hk => ?_)
      refine B_X11_door_0 hk (by omega) (Nat.zero_le _) ?_
      rw [nI_clamp (by omega), e1, e2, e3, e4, e5, e6]
      refine ⟨fun _ => ⟨fun q => absurd q (by rw [hwb]; exact nI_pos (by omega)), fun _ => ⟨fun _ => ?_, fun q => absurd (by rw [hwb]; exact nI_le (b := 5) (by omega) (by decide)) q⟩⟩, fun q => absurd ((fX0_has_iff d1 d3).mpr ok.1) q⟩
      exact ⟨fun q => ⟨hv, by rw [V0 q], rfl⟩, fun q0 => ⟨fun q => ⟨hv, by rw [V1 q0 q], rfl⟩, fun q1 => ⟨fun q => ⟨hv, by rw [V2 q0 q1 q], rfl⟩, fun q2 => ⟨fun q => ⟨hv, by rw [V3 q0 q1 q2 q], rfl⟩, fun q3 => ⟨fun q => ⟨hv, by rw [V4 q0 q1 q2 q3 q], rfl⟩, fun q4 => ⟨hv, by rw [V5 q0 q1 q2 q3 q4], rfl⟩⟩⟩⟩⟩⟩
    refine (S_Ldoor hM).mono ?_
    rintro r' μ' (⟨v, μ1, ⟨ev, rfl⟩, rfl, rfl⟩ | ⟨q, _⟩)
    · have e0 : v = dvV μ1 a w := Value.int.inj (Option.some.inj ev)
      subst e0
      refine ⟨0, Or.inl rfl, rfl, m2_MT.intro (ls := [.ref kM, .int (nI a), .int w]) (by decide +kernel) rfl (ble rfl) (fun κ hk => ?_)⟩
      refine B_X12_door_0 hk (by omega) ⟨fun _ => ⟨fun _ => ?_, fun q => absurd ((in_k (k := 5) (by decide)).mpr ok.2) q⟩, fun q => absurd ((fX12_isDoor_iff (c0 _ rfl) d3).mpr ok.1) q⟩
      rw [nI_clamp (by omega)]
      refine ⟨fun q0 => ⟨fun q1 => ⟨fun q2 => ⟨fun q3 => ⟨fun q4 => ⟨hv, ?_⟩, fun q => ⟨hv, ?_⟩⟩, fun q => ⟨hv, ?_⟩⟩, fun q => ⟨hv, ?_⟩⟩, fun q => ⟨hv, ?_⟩⟩, fun q => ⟨hv, ?_⟩⟩
      · rw [V5 q0 q1 q2 q3 q4]; exact okT_i (b := μ1.1 kM_atNoon a) h
      · rw [V4 q0 q1 q2 q3 q]; exact okT_i (b := μ1.1 kM_left a) h
      · rw [V3 q0 q1 q2 q]; exact okT_i (b := μ1.1 kM_lets a) h
      · rw [V2 q0 q1 q]; exact okT_i (b := if μ1.1 kM_isOneWay a = 0 then 0 else 1) h
      · rw [V1 q0 q]; exact okT_i (b := μ1.1 kM_doorB a) h
      · rw [V0 q]; exact okT_i (b := μ1.1 kM_doorA a) h
    · exact q.elim
  · have hM : m2_MX (D + 1) yX11_door cX11_door 3 (some .int) [.ref kC, .int x, .int w] μ (fun _ _ => False) (fun μ' => μ' = μ) := by
      refine m2_MX.intro (ls := [.ref kC, .int x, .int w]) (by decide +kernel) rfl (ble rfl) (fun κ hk => ?_)
      refine B_X11_door_0 hk (by omega) (Nat.zero_le _) ⟨fun q => ⟨fun _ => rfl, fun q1 => ⟨fun q2 => absurd ⟨(fX0_has_iff d1 d3).mp q, i32_in (k := 6) (by decide) q1 ((i32_lt_succ (k := 5) (by decide)).mpr (Int32.not_lt.mpr q2))⟩ ok, fun _ => rfl⟩⟩, fun _ => rfl⟩
    refine (S_Ldoor hM).mono ?_
    rintro r' μ' (⟨v, μ1, q, _⟩ | ⟨rfl, rfl⟩)
    · exact q.elim
    · refine ⟨1, Or.inr rfl, rfl, m2_MT.intro (ls := [.ref kM, .int x, .int w]) (by decide +kernel) rfl (ble rfl) (fun κ hk => ?_)⟩
      refine B_X12_door_0 hk (by omega) ⟨fun q => ⟨fun q2 => absurd ⟨(fX12_isDoor_iff (c0 _ rfl) d3).mp q, (in_k (k := 5) (by decide)).mp q2⟩ ok, fun _ => ⟨_, S_lost _, ?_⟩⟩, fun _ => ⟨_, S_lost _, ?_⟩⟩
      · rintro y μ7 ⟨_, rfl⟩
        exact okT_1 h _
      · rintro y μ7 ⟨_, rfl⟩
        exact okT_1 h _
