/-! calls that no ways are needed for -/
/-- class and reference, one behind the other -/
def stp (D : Nat) (yc : MethodName) (cc : ByteArray) (nc : Nat) (rc : Option FieldType) (ym : MethodName) (cm : ByteArray) (nm : Nat) (rm : Option FieldType) (as : List Value) (μ : m2M) (P : m2M → Prop) : Prop := m2_MT D yc cc nc rc (.ref kC :: as) μ (fun r μ1 => m2_MT D ym cm nm rm (.ref kM :: as) μ1 (fun r' μ2 => r' = r ∧ P μ2))
theorem T_of {D : Nat} {yc : MethodName} {cc : ByteArray} {nc : Nat} {rc : Option FieldType} {ym : MethodName} {cm : ByteArray} {nm : Nat} {rm : Option FieldType} {as : List Value} {μ : m2M} (r : Option Value) (ρ : m2M) (hc : m2_MT D yc cc nc rc (.ref kC :: as) μ (fun r' μ1 => r' = r ∧ REL2 ρ μ1 ∧ frC μ μ1)) (hm : ∀ μ1, vM μ μ1 → m2_MT D ym cm nm rm (.ref kM :: as) μ1 (fun r' μ2 => r' = r ∧ vM ρ μ2 ∧ frM μ1 μ2)) : stp D yc cc nc rc ym cm nm rm as μ REL := by
  refine hc.mono ?_
  rintro r' μ1 ⟨rfl, h1, h2⟩
  refine (hm μ1 (h2.v vM.rf)).mono ?_
  rintro r'' μ2 ⟨rfl, h3, h4⟩
  exact ⟨rfl, REL2.z h1 h4.a h3⟩
theorem r_K_of {ν μ ν2 μ2 : m2M} {n p : Nat} (q : r_K ν μ n p) (e : ∀ c j, 107 ≤ c → c < 122 → μ2.1 c j = μ.1 c j) (e1 : ∀ i, ν2.1 kM_isKept i = ν.1 kM_isKept i) (e2 : ∀ i, ν2.1 kM_keptDoors i = ν.1 kM_keptDoors i) (e3 : ∀ i, ν2.1 kM_keptPeople i = ν.1 kM_keptPeople i) (e4 : ∀ j, j < 135 → ν2.1 kM_put j = ν.1 kM_put j) (e5 : ∀ i, ν2.1 kM_errand i = ν.1 kM_errand i) : r_K ν2 μ2 n p := by
  intro i hi
  have ek : ∀ k j, k < 5 → μ2.1 (kK i + k) j = μ.1 (kK i + k) j := fun k j hk => e _ j (by show 107 ≤ 107 + 5 * i + k; omega) (by show 107 + 5 * i + k < 122; omega)
  have ek0 : ∀ j, μ2.1 (kK i) j = μ.1 (kK i) j := fun j => ek 0 j (by decide)
  obtain ⟨h1, h2, h3⟩ := q i hi
  rw [ek0, e1]
  refine ⟨h1, h2, fun hk => ?_⟩
  obtain ⟨kn, kp, a1, a2, a3, a4, a5, a6, a7, a8, a9, a10⟩ := h3 hk
  refine ⟨kn, kp, a1, a2, (ek0 4).trans a3, (e2 i).trans a4, (ek0 5).trans a5, (e3 i).trans a6, ?_, ?_, fun d hd => ?_, fun w hw => ?_⟩
  · rw [ek0, e4 _ (by omega)]; exact a7
  · rw [e4 _ (by omega)]; exact a8
  · rw [ek 1 _ (by decide), e4 _ (by omega)]
    exact a9 d hd
  · rw [ek 2 _ (by decide), ek 3 _ (by decide), ek 4 _ (by decide), e4 _ (by omega), e4 _ (by omega), e4 _ (by omega), e5]
    exact a10 w hw
/-- a change of the class's cells, of the reference's, of both -/
theorem r_K_c {ν μ : m2M} {n p c : Nat} {f : Nat → Int32} (hc : c < 107 ∨ 122 ≤ c) (q : r_K ν μ n p) : r_K ν (m2_sr μ c f) n p := r_K_of q (fun c' j z1 z2 => by rw [m2_sr_ne μ f (show c' ≠ c by omega)]) (fun _ => rfl) (fun _ => rfl) (fun _ => rfl) (fun _ _ => rfl) (fun _ => rfl)
theorem r_K_m {ν μ : m2M} {n p c : Nat} {f : Nat → Int32} (h : (c == kM_isKept || c == kM_keptDoors || c == kM_keptPeople || c == kM_put || c == kM_errand) = false) (q : r_K ν μ n p) : r_K (m2_sr ν c f) μ n p := by
  simp only [Bool.or_eq_false_iff, beq_eq_false_iff_ne, ne_eq] at h
  obtain ⟨⟨⟨⟨h1, h2⟩, h3⟩, h4⟩, h5⟩ := h
  exact r_K_of q (fun c' j z1 z2 => rfl) (fun i => by rw [m2_sr_ne ν f (Ne.symm h1)]) (fun i => by rw [m2_sr_ne ν f (Ne.symm h2)]) (fun i => by rw [m2_sr_ne ν f (Ne.symm h3)]) (fun i _ => by rw [m2_sr_ne ν f (Ne.symm h4)]) (fun i => by rw [m2_sr_ne ν f (Ne.symm h5)])
theorem r_K_sr {ν μ : m2M} {n p c : Nat} {f g : Nat → Int32} (hc : c < 107 ∨ 122 ≤ c) (h : (c == kM_isKept || c == kM_keptDoors || c == kM_keptPeople || c == kM_put || c == kM_errand) = false) (q : r_K ν μ n p) : r_K (m2_sr ν c g) (m2_sr μ c f) n p := r_K_c hc (r_K_m h q)
theorem r_K_si {ν μ : m2M} {n p c j : Nat} {x : Int32} (hc : c < 107 ∨ 122 ≤ c) (h : (c == kM_isKept || c == kM_keptDoors || c == kM_keptPeople || c == kM_put || c == kM_errand) = false) (q : r_K ν μ n p) : r_K (m2_si ν c j x) (m2_si μ c j x) n p := r_K_sr hc h q
theorem fX12_in_iff {x a b : Int32} : fX12_in x a b = 1 ↔ ¬ x < a ∧ ¬ b < x := by
  unfold fX12_in
  by_cases h1 : x < a
  · rw [if_pos h1]
    exact ⟨fun q => absurd q (by decide), fun q => absurd h1 q.1⟩
  · rw [if_neg h1]
    by_cases h2 : b < x
    · rw [if_pos h2]
      exact ⟨fun q => absurd q (by decide), fun q => absurd h2 q.2⟩
    · rw [if_neg h2]
      exact ⟨fun _ => ⟨h1, h2⟩, fun _ => rfl⟩
theorem i32_nlt {x y : Int32} : ¬ x < y ↔ y ≤ x := Int32.not_lt
theorem i32_nle {x y : Int32} : ¬ x ≤ y ↔ y < x := Int32.not_le
theorem i32_lt_succ {x : Int32} {k : Nat} (hk : k + 1 < 2 ^ 31) : x < nI (k + 1) ↔ ¬ nI k < x := by
  rw [Int32.not_lt, Int32.lt_iff_toInt_lt, Int32.le_iff_toInt_le, nI_toInt (by omega), nI_toInt (by omega)]
  omega
theorem i32_in {x : Int32} {k : Nat} (hk : k < 2 ^ 31) (h0 : ¬ x < 0) (h1 : x < nI k) : in_ k x := by
  obtain ⟨j, hj, rfl⟩ := nI_of h0
  exact ⟨j, (nI_ltI hj hk).mp h1, rfl⟩
theorem ag_thrown {μ : m2M} : ag μ (m2_si μ kM 22 0) := ag_si rfl
theorem T_keeps {D : Nat} (hD : 1 ≤ D) (x : Int32) (μ : m2M) (h : REL μ) : stp D yX11_keeps cX11_keeps 3 (some .int) yX12_keeps cX12_keeps 3 (some .int) [.int x] μ REL := by
  obtain ⟨D, rfl⟩ : ∃ E, D = E + 1 := ⟨D - 1, by omega⟩
  obtain ⟨n, p, h1, h2, h3, h4, h5, h6, h7, h8, h9⟩ := h
  have mdl : ∀ (r : Option Value) (ν : m2M), (¬ (¬ x < 0 ∧ ¬ 59 < x) → r = some (.int (-1)) ∧ ν = μ) → ((¬ x < 0 ∧ ¬ 59 < x) → r = some (.int (μ.1 kW 6)) ∧ ν = m2_si μ kW 6 x) → m2_MT (D + 1) yX12_keeps cX12_keeps 3 (some .int) [.ref kM, .int x] ν (fun r' μ2 => r' = r ∧ REL μ2) := by
    intro r ν q1 q2
    refine m2_MT.intro (ls := [.ref kM, .int x, .null]) (by decide +kernel) rfl (Nat.le_of_ble_eq_true rfl) (fun κ hk => ?_)
    refine B_X12_keeps_0 hk (Nat.zero_le _) ⟨fun q => ?_, fun q => ?_⟩
    · have q3 := fX12_in_iff.mp q
      obtain ⟨rfl, rfl⟩ := q2 q3
      refine ⟨by rw [h8.1]; rfl, n, p, h1, h2, h3, h4, h5, (r_K_si (Or.inl (by decide)) rfl (r_K_si (Or.inl (by decide)) rfl (r_K_si (Or.inl (by decide)) rfl h6))), h7, ⟨rfl, ?_⟩, h9⟩
      exact i32_in (by decide) q3.1 ((i32_lt_succ (k := 59) (by decide)).mpr q3.2)
    · have q3 : ¬ (¬ x < 0 ∧ ¬ 59 < x) := fun z => q (fX12_in_iff.mpr z)
      obtain ⟨rfl, rfl⟩ := q1 q3
      exact ⟨rfl, REL.ag ⟨n, p, h1, h2, h3, h4, h5, h6, h7, h8, h9⟩ ag_thrown⟩
  refine m2_MT.intro (ls := [.ref kC, .int x, .null]) (by decide +kernel) rfl (Nat.le_of_ble_eq_true rfl) (fun κ hk => ?_)
  refine B_X11_keeps_0 hk ⟨fun q => ?_, fun q => ⟨fun q2 => ?_, fun q2 => ?_⟩⟩
  · exact mdl _ _ (fun _ => ⟨rfl, rfl⟩) (fun z => absurd q z.1)
  · exact mdl _ _ (fun z => absurd ⟨q, (i32_lt_succ (k := 59) (by decide)).mp q2⟩ z) (fun _ => ⟨rfl, rfl⟩)
  · exact mdl _ _ (fun _ => ⟨rfl, rfl⟩) (fun z => absurd ((i32_lt_succ (k := 59) (by decide)).mpr z.2) q2)
theorem T_end {D : Nat} (hD : 1 ≤ D) (x : Int32) (μ : m2M) (h : REL μ) : stp D yX11_end cX11_end 2 (some .boolean) yX12_end cX12_end 2 (some .boolean) [.int x] μ REL := by
  obtain ⟨D, rfl⟩ : ∃ E, D = E + 1 := ⟨D - 1, by omega⟩
  obtain ⟨n, p, h1, h2, h3, h4, h5, h6, h7, h8, h9⟩ := h
  obtain ⟨t, t1, t2, t3, t4⟩ := id h3
  have mdl : ∀ (r : Option Value) (ν : m2M), (¬ (¬ x < 0 ∧ ¬ nI t < x) → r = some (.int 0) ∧ ν = μ) → ((¬ x < 0 ∧ ¬ nI t < x) → r = some (.int 1) ∧ ν = m2_si μ kC 1 x) → m2_MT (D + 1) yX12_end cX12_end 2 (some .boolean) [.ref kM, .int x] ν (fun r' μ2 => r' = r ∧ REL μ2) := by
    intro r ν q1 q2
    have e : ν.1 kM 19 = nI t := by
      by_cases z : ¬ x < 0 ∧ ¬ nI t < x
      · rw [(q2 z).2]; exact t3
      · rw [(q1 z).2]; exact t3
    refine m2_MT.intro (ls := [.ref kM, .int x]) (by decide +kernel) rfl (Nat.le_of_ble_eq_true rfl) (fun κ hk => ?_)
    refine B_X12_end_0 hk (Nat.zero_le _) ?_
    rw [e]
    refine ⟨fun q => ?_, fun q => ?_⟩
    · have q3 := fX12_in_iff.mp q
      obtain ⟨rfl, rfl⟩ := q2 q3
      obtain ⟨j, hj, rfl⟩ := nI_of q3.1
      have hjt : j ≤ t := Nat.le_of_not_lt (fun z => q3.2 ((nI_ltI (a := t) (b := j) (by omega) hj).mpr z))
      exact ⟨rfl, n, p, h1, h2, ⟨j, by omega, rfl, rfl, t4⟩, h4, h5, (r_K_si (Or.inl (by decide)) rfl (r_K_si (Or.inl (by decide)) rfl (r_K_si (Or.inl (by decide)) rfl h6))), h7, h8, h9⟩
    · have q3 : ¬ (¬ x < 0 ∧ ¬ nI t < x) := fun z => q (fX12_in_iff.mpr z)
      obtain ⟨rfl, rfl⟩ := q1 q3
      exact ⟨rfl, REL.ag ⟨n, p, h1, h2, h3, h4, h5, h6, h7, h8, h9⟩ ag_thrown⟩
  refine m2_MT.intro (ls := [.ref kC, .int x]) (by decide +kernel) rfl (Nat.le_of_ble_eq_true rfl) (fun κ hk => ?_)
  refine B_X11_end_0 hk ?_
  rw [t2]
  refine ⟨fun q => ?_, fun q => ⟨fun q2 => ?_, fun q2 => ?_⟩⟩
  · exact mdl _ _ (fun _ => ⟨rfl, rfl⟩) (fun z => absurd q z.1)
  · exact mdl _ _ (fun z => absurd ⟨q, i32_nlt.mpr q2⟩ z) (fun _ => ⟨rfl, rfl⟩)
  · exact mdl _ _ (fun _ => ⟨rfl, rfl⟩) (fun z => absurd (i32_nlt.mp z.2) q2)
