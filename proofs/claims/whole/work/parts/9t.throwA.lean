/-! door, of, row: the law's helper, then the reference: thrown() is what the helper says, and where nothing was thrown, what lies in out is the answer -/
theorem m2_MY.mono {d : Nat} {y : MethodName} {cc : ByteArray} {nL : Nat} {ret : Option FieldType} {hh : List (Nat × Nat × Nat × Nat)} {as : List Value} {μ : m2M} {Q Q' : Option Value → m2M → Prop} (h : m2_MY d y cc nL ret hh as μ Q) (hq : ∀ r μ', Q r μ' → Q' r μ') : m2_MY d y cc nL ret hh as μ Q' := by
  intro l D dA ad sz hst hj p e ha hc hk s m args below hf happ hP hK
  obtain ⟨n, o, h1, h2, h3, h4⟩ := h l D dA ad sz hst hj p e ha hc hk s m args below hf happ hP hK
  exact ⟨n, o, h1, h2, h3, m2_Qc_mono hq h4.1, h4.2⟩
/-- what the law asks of one such turn -/
def okT (k : Int32) (r : Option Value) (μ : m2M) : Prop := REL μ ∧ μ.1 kM 22 = k ∧ (k = 0 → r = some (.long (μ.2 kOut 0)) ∨ ∃ b : Int32, r = some (.int b) ∧ μ.2 kOut 0 = b.toInt64)
def stpx (D : Nat) (yc : MethodName) (cc : ByteArray) (nc : Nat) (hh : List (Nat × Nat × Nat × Nat)) (ym : MethodName) (cm : ByteArray) (nm : Nat) (rm : Option FieldType) (as : List Value) (μ : m2M) : Prop :=
  m2_MY D yc cc nc (some .int) hh (.ref kC :: as ++ [.ref kOut]) μ (fun r μ1 => ∃ k : Int32, (k = 0 ∨ k = 1) ∧ r = some (.int k) ∧ m2_MT D ym cm nm rm (.ref kM :: as) μ1 (fun r' μ2 => okT k r' μ2))
theorem S_lost {D : Nat} (μ : m2M) : m2_MT D yX12_lost cX12_lost 1 (some .int) [.ref kM] μ (fun r μ' => r = some (.int 0) ∧ μ' = m2_si μ kM 22 1) := m2_MT.intro (ls := [.ref kM]) (by decide +kernel) rfl (ble rfl) (fun κ hk => B_X12_lost_0 hk ⟨rfl, rfl⟩)
theorem out_at (μ : m2M) (x : Int64) : (m2_sl μ kOut (vp_updL (μ.2 kOut) 0 x)).2 kOut 0 = x := by
  rw [m2_sl_same]
  exact if_pos rfl
theorem okT_1 {μ : m2M} (h : REL μ) (r : Option Value) : okT 1 r (m2_si (m2_si μ kM 22 0) kM 22 1) := ⟨(h.ag (ag_si rfl)).ag (ag_si rfl), si_at _ _ _ _, fun z => absurd z (by decide)⟩
theorem okT_i {μ : m2M} (h : REL μ) {b : Int32} : okT 0 (some (.int b)) (m2_si (m2_sl μ kOut (vp_updL (μ.2 kOut) 0 b.toInt64)) kM 22 0) := ⟨(h.ag (ag_sl (by decide) (by decide))).ag (ag_si rfl), si_at _ _ _ _, fun _ => Or.inr ⟨b, rfl, out_at μ _⟩⟩
theorem okT_l {μ : m2M} (h : REL μ) {b : Int64} : okT 0 (some (.long b)) (m2_si (m2_sl μ kOut (vp_updL (μ.2 kOut) 0 b)) kM 22 0) := ⟨(h.ag (ag_sl (by decide) (by decide))).ag (ag_si rfl), si_at _ _ _ _, fun _ => Or.inl (by show _ = some (Value.long ((m2_sl μ kOut (vp_updL (μ.2 kOut) 0 b)).2 kOut 0)); rw [out_at])⟩
theorem T_row {D : Nat} (hD : 7 ≤ D) (x : Int32) (μ : m2M) (h : REL μ) : stpx D yL_row cL_row 4 [(0, 8, 11, 13)] yX12_row cX12_row 2 (some .long) [.int x] μ := by
  obtain ⟨D, rfl⟩ : ∃ E, D = E + 1 := ⟨D - 1, by omega⟩
  obtain ⟨n, p, h1, h2, h3, h4, h5, h6, h7, h8, h9⟩ := id h
  obtain ⟨r, hr, c3, m21, hrow⟩ := h4
  by_cases ok : in_ r x
  · obtain ⟨a, ha, rfl⟩ := id ok
    have hM : m2_MX D yX11_row cX11_row 2 (some .long) [.ref kC, .int (nI a)] μ (fun v μ' => v = some (.long (μ.2 kC_row a)) ∧ μ' = μ) (fun _ => False) := by
      refine m2_MX.intro (ls := [.ref kC, .int (nI a)]) (by decide +kernel) rfl (ble rfl) (fun κ hk => ?_)
      refine B_X11_row_0 hk (by omega) ⟨fun q => absurd q (nI_pos (by omega)), fun _ => ⟨fun _ => ⟨vp_in_nI (by omega) (by decide), ?_⟩, fun q => absurd (show nI a < μ.1 kC 3 by rw [c3]; exact nI_lt ha (by omega)) q⟩⟩
      rw [nI_clamp (by omega)]
      exact ⟨rfl, rfl⟩
    refine (S_Lrow hM).mono ?_
    rintro r' μ' (⟨v, μ1, ⟨e1, rfl⟩, rfl, rfl⟩ | ⟨q, _⟩)
    · have e2 : v = μ1.2 kC_row a := Value.long.inj (Option.some.inj e1)
      rw [e2, hrow a ha]
      refine ⟨0, Or.inl rfl, rfl, m2_MT.intro (ls := [.ref kM, .int (nI a)]) (by decide +kernel) rfl (ble rfl) (fun κ hk => ?_)⟩
      refine B_X12_row_0 hk (Nat.zero_le _) ?_
      rw [show (m2_sl μ1 kOut (vp_updL (μ1.2 kOut) 0 (μ1.2 kM_row a))).1 kM 21 = nI r from m21]
      refine ⟨fun _ => ⟨vp_in_nI (by omega) (by decide), ?_⟩, fun q => absurd ((in_m1 (by omega)).mpr ok) q⟩
      rw [nI_clamp (by omega), m2_sl_ne _ _ (by decide)]
      exact okT_l h
    · exact q.elim
  · have hM : m2_MX D yX11_row cX11_row 2 (some .long) [.ref kC, .int x] μ (fun _ _ => False) (fun μ' => μ' = μ) := by
      refine m2_MX.intro (ls := [.ref kC, .int x]) (by decide +kernel) rfl (ble rfl) (fun κ hk => ?_)
      refine B_X11_row_0 hk (by omega) ⟨fun _ => rfl, fun q => ⟨fun q2 => absurd (i32_in (k := r) (by omega) q (by rw [← c3]; exact q2)) ok, fun _ => rfl⟩⟩
    refine (S_Lrow hM).mono ?_
    rintro r' μ' (⟨v, μ1, q, _⟩ | ⟨rfl, rfl⟩)
    · exact q.elim
    · refine ⟨1, Or.inr rfl, rfl, m2_MT.intro (ls := [.ref kM, .int x]) (by decide +kernel) rfl (ble rfl) (fun κ hk => ?_)⟩
      refine B_X12_row_0 hk (Nat.zero_le _) ?_
      rw [m21]
      refine ⟨fun q => absurd ((in_m1 (by omega)).mp q) ok, fun _ => ⟨_, S_lost _, ?_⟩⟩
      rintro y μ7 ⟨_, rfl⟩
      exact okT_1 h _
