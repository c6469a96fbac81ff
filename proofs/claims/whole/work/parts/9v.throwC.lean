def ofV (μ : m2M) (a : Nat) (w : Int32) : Int32 := if w = 0 then μ.1 kM_where a else if w = 1 then (if μ.1 kM_isStranger a = 0 then 0 else 1) else if w = 2 then μ.1 kM_worth a else if w = 3 then μ.1 kM_errand a else if w = 4 then (if μ.1 kM_comesBack a = 0 then 0 else 1) else if w = 5 then (if μ.1 kM_isDone a = 0 then 0 else 1) else if w = 6 then fX12_nextOf (nI a) μ else μ.1 kM_home a
theorem T_ofp {D : Nat} (hD : 7 ≤ D) (x w : Int32) (μ : m2M) (h : REL μ) : stpx D yL_of cL_of 5 [(0, 10, 13, 13)] yX12_of cX12_of 3 (some .int) [.int x, .int w] μ := by
  obtain ⟨D, rfl⟩ : ∃ E, D = E + 1 + 1 := ⟨D - 2, by omega⟩
  obtain ⟨n, p, hA⟩ := id h
  have hA' : RLn μ μ n p := hA
  obtain ⟨h1, h2, h3, h4, h5, h6, h7, h8, h9⟩ := hA
  obtain ⟨d1, d2, d3, d4⟩ := h2
  have c0 : ∀ ν : m2M, ν.1 = μ.1 → (m2_si ν kM 22 0).1 kM 7 = nI p := fun ν e => by rw [si_nj _ _ _ (by decide), e]; exact d2
  by_cases ok : in_ p x ∧ in_ 8 w
  · obtain ⟨⟨a, ha, rfl⟩, b, hb, hwb⟩ := id ok
    obtain ⟨⟨e1, e2, e3, e4, e5, e6, e7, e8⟩, -⟩ := d4 a ha
    have e9 : fX6_goal (nI a) μ = fX12_nextOf (nI a) μ := hA'.goal ha
    have e10 : ∀ ν : m2M, ν.1 = μ.1 → fX12_nextOf (nI a) (m2_si ν kM 22 0) = fX12_nextOf (nI a) μ := by
      intro ν e
      unfold fX12_nextOf
      rw [si_nc ν (c := kM) (c' := kM_errand) _ _ (by decide), si_nc ν (c := kM) (c' := kM_isDone) _ _ (by decide), si_nc ν (c := kM) (c' := kM_wasThere) _ _ (by decide), si_nc ν (c := kM) (c' := kM_home) _ _ (by decide), e]
    have V0 : w = 0 → ofV μ a w = μ.1 kM_where a := fun q => if_pos q
    have V1 : ¬ w = 0 → w = 1 → ofV μ a w = (if μ.1 kM_isStranger a = 0 then 0 else 1) := fun q0 q => by unfold ofV; rw [if_neg q0, if_pos q]
    have V2 : ¬ w = 0 → ¬ w = 1 → w = 2 → ofV μ a w = μ.1 kM_worth a := fun q0 q1 q => by unfold ofV; rw [if_neg q0, if_neg q1, if_pos q]
    have V3 : ¬ w = 0 → ¬ w = 1 → ¬ w = 2 → w = 3 → ofV μ a w = μ.1 kM_errand a := fun q0 q1 q2 q => by unfold ofV; rw [if_neg q0, if_neg q1, if_neg q2, if_pos q]
    have V4 : ¬ w = 0 → ¬ w = 1 → ¬ w = 2 → ¬ w = 3 → w = 4 → ofV μ a w = (if μ.1 kM_comesBack a = 0 then 0 else 1) := fun q0 q1 q2 q3 q => by unfold ofV; rw [if_neg q0, if_neg q1, if_neg q2, if_neg q3, if_pos q]
    have V5 : ¬ w = 0 → ¬ w = 1 → ¬ w = 2 → ¬ w = 3 → ¬ w = 4 → w = 5 → ofV μ a w = (if μ.1 kM_isDone a = 0 then 0 else 1) := fun q0 q1 q2 q3 q4 q => by unfold ofV; rw [if_neg q0, if_neg q1, if_neg q2, if_neg q3, if_neg q4, if_pos q]
    have V6 : ¬ w = 0 → ¬ w = 1 → ¬ w = 2 → ¬ w = 3 → ¬ w = 4 → ¬ w = 5 → w = 6 → ofV μ a w = fX12_nextOf (nI a) μ := fun q0 q1 q2 q3 q4 q5 q => by unfold ofV; rw [if_neg q0, if_neg q1, if_neg q2, if_neg q3, if_neg q4, if_neg q5, if_pos q]
    have V7 : ¬ w = 0 → ¬ w = 1 → ¬ w = 2 → ¬ w = 3 → ¬ w = 4 → ¬ w = 5 → ¬ w = 6 → ofV μ a w = μ.1 kM_home a := fun q0 q1 q2 q3 q4 q5 q6 => by unfold ofV; rw [if_neg q0, if_neg q1, if_neg q2, if_neg q3, if_neg q4, if_neg q5, if_neg q6]
    have hv : vp_in (nI a) 8 := vp_in_nI (by omega) (by decide)
    have hM : m2_MX (D + 1) yX11_of cX11_of 3 (some .int) [.ref kC, .int (nI a), .int w] μ (fun v μ' => v = some (.int (ofV μ a w)) ∧ μ' = μ) (fun _ => False) := by
      refine m2_MX.intro (ls := [.ref kC, .int (nI a), .int w]) (by decide +kernel) rfl (ble rfl) (fun κ hk => ?_)
      refine B_X11_of_0 hk (by omega) (by omega) ?_
      rw [e9, nI_clamp (by omega), e1, e2, e3, e4, e5, e6, e8]
      refine ⟨fun _ => ⟨fun q => absurd q (by rw [hwb]; exact nI_pos (by omega)), fun _ => ⟨fun _ => ?_, fun q => absurd (by rw [hwb]; exact nI_le (b := 7) (by omega) (by decide)) q⟩⟩, fun q => absurd ((fX6_has_iff d1 d3).mpr ok.1) q⟩
      exact ⟨fun q => ⟨hv, by rw [V0 q], rfl⟩, fun q0 => ⟨fun q => ⟨hv, by rw [V1 q0 q], rfl⟩, fun q1 => ⟨fun q => ⟨hv, by rw [V2 q0 q1 q], rfl⟩, fun q2 => ⟨fun q => ⟨hv, by rw [V3 q0 q1 q2 q], rfl⟩, fun q3 => ⟨fun q => ⟨hv, by rw [V4 q0 q1 q2 q3 q], rfl⟩, fun q4 => ⟨fun q => ⟨hv, by rw [V5 q0 q1 q2 q3 q4 q], rfl⟩, fun q5 => ⟨fun q => ⟨hv, by rw [V6 q0 q1 q2 q3 q4 q5 q], rfl⟩, fun q6 => ⟨hv, by rw [V7 q0 q1 q2 q3 q4 q5 q6], rfl⟩⟩⟩⟩⟩⟩⟩⟩
    refine (S_Lof hM).mono ?_
    rintro r' μ' (⟨v, μ1, ⟨ev, rfl⟩, rfl, rfl⟩ | ⟨q, _⟩)
    · have e0 : v = ofV μ1 a w := Value.int.inj (Option.some.inj ev)
      subst e0
      refine ⟨0, Or.inl rfl, rfl, m2_MT.intro (ls := [.ref kM, .int (nI a), .int w]) (by decide +kernel) rfl (ble rfl) (fun κ hk => ?_)⟩
      refine B_X12_of_0 hk (by omega) ⟨fun _ => ⟨fun _ => ?_, fun q => absurd ((in_k (k := 7) (by decide)).mpr ok.2) q⟩, fun q => absurd ((fX12_isOne_iff (c0 _ rfl) d3).mpr ok.1) q⟩
      rw [e10 (m2_sl μ1 kOut (vp_updL (μ1.2 kOut) 0 (ofV μ1 a w).toInt64)) rfl, nI_clamp (by omega)]
      refine ⟨fun q => ⟨hv, ?_⟩, fun q0 => ⟨fun q => ⟨hv, ?_⟩, fun q1 => ⟨fun q => ⟨hv, ?_⟩, fun q2 => ⟨fun q => ⟨hv, ?_⟩, fun q3 => ⟨fun q => ⟨hv, ?_⟩, fun q4 => ⟨fun q => ⟨hv, ?_⟩, fun q5 => ⟨fun q => ⟨hv, ?_⟩, fun q6 => ⟨hv, ?_⟩⟩⟩⟩⟩⟩⟩⟩
      · rw [V0 q]; exact okT_i (b := μ1.1 kM_where a) h
      · rw [V1 q0 q]; exact okT_i (b := if μ1.1 kM_isStranger a = 0 then 0 else 1) h
      · rw [V2 q0 q1 q]; exact okT_i (b := μ1.1 kM_worth a) h
      · rw [V3 q0 q1 q2 q]; exact okT_i (b := μ1.1 kM_errand a) h
      · rw [V4 q0 q1 q2 q3 q]; exact okT_i (b := if μ1.1 kM_comesBack a = 0 then 0 else 1) h
      · rw [V5 q0 q1 q2 q3 q4 q]; exact okT_i (b := if μ1.1 kM_isDone a = 0 then 0 else 1) h
      · rw [V6 q0 q1 q2 q3 q4 q5 q]; exact okT_i (b := fX12_nextOf (nI a) μ1) h
      · rw [V7 q0 q1 q2 q3 q4 q5 q6]; exact okT_i (b := μ1.1 kM_home a) h
    · exact q.elim
  · have hM : m2_MX (D + 1) yX11_of cX11_of 3 (some .int) [.ref kC, .int x, .int w] μ (fun _ _ => False) (fun μ' => μ' = μ) := by
      refine m2_MX.intro (ls := [.ref kC, .int x, .int w]) (by decide +kernel) rfl (ble rfl) (fun κ hk => ?_)
      refine B_X11_of_0 hk (by omega) (by omega) ⟨fun q => ⟨fun _ => rfl, fun q1 => ⟨fun q2 => absurd ⟨(fX6_has_iff d1 d3).mp q, i32_in (k := 8) (by decide) q1 ((i32_lt_succ (k := 7) (by decide)).mpr (Int32.not_lt.mpr q2))⟩ ok, fun _ => rfl⟩⟩, fun _ => rfl⟩
    refine (S_Lof hM).mono ?_
    rintro r' μ' (⟨v, μ1, q, _⟩ | ⟨rfl, rfl⟩)
    · exact q.elim
    · refine ⟨1, Or.inr rfl, rfl, m2_MT.intro (ls := [.ref kM, .int x, .int w]) (by decide +kernel) rfl (ble rfl) (fun κ hk => ?_)⟩
      refine B_X12_of_0 hk (by omega) ⟨fun q => ⟨fun q2 => absurd ⟨(fX12_isOne_iff (c0 _ rfl) d3).mp q, (in_k (k := 7) (by decide)).mp q2⟩ ok, fun _ => ⟨_, S_lost _, ?_⟩⟩, fun _ => ⟨_, S_lost _, ?_⟩⟩
      · rintro y μ7 ⟨_, rfl⟩
        exact okT_1 h _
      · rintro y μ7 ⟨_, rfl⟩
        exact okT_1 h _
