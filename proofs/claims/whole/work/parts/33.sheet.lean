/-! sheet -/
theorem clamp60 (x : Int32) : in_ 61 (m2_max 0 (m2_min 60 x)) := by
  unfold m2_max m2_min
  by_cases h : x < 60
  · rw [if_pos h]
    by_cases h2 : 0 < x
    · rw [if_pos h2]
      refine i32_in (k := 61) (by decide) ?_ ?_
      · intro q
        rw [Int32.lt_iff_toInt_lt] at q h2
        omega
      · rw [Int32.lt_iff_toInt_lt] at h ⊢
        have e1 : (60 : Int32).toInt = 60 := by decide
        have e2 : (nI 61).toInt = 61 := by decide
        omega
    · rw [if_neg h2]
      exact ⟨0, by decide, rfl⟩
  · rw [if_neg h]
    exact ⟨60, by decide, by decide⟩
/-- what a sheet tells -/
def shF (ν : m2M) (k x f s : Int32) : Nat → Int32 := fun d => if k = 3 ∨ x ≤ nI d then ν.1 kM_lets d else fX11_sheetEntry k (f + nI d * s)
theorem sheet_mul (d : Nat) (s : Int32) : nI (d + 1) * s = nI d * s + s := by
  rw [nI_succ, Int32.add_mul, Int32.one_mul]
theorem in_kind {x : Int32} (h : in_ 4 x) : (3 ≤ x ↔ x = 3) ∧ (x = 0 ∨ x = 1 ∨ x = 2 ∨ x = 3) := by
  obtain ⟨a, ha, rfl⟩ := h
  rcases (show a = 0 ∨ a = 1 ∨ a = 2 ∨ a = 3 by omega) with rfl | rfl | rfl | rfl <;> decide
theorem sheetEntry_m (k x : Int32) : fX11_sheetEntry k x = m2_max 0 (m2_min 60 (if k = 0 then x.toInt8.toInt32 else (if k = 1 then x.toInt16.toInt32 else x : Int32) : Int32)) := by
  unfold fX11_sheetEntry
  by_cases h : k = 0
  · rw [if_pos h, if_pos h]
  · rw [if_neg h, if_neg h]
    by_cases h : k = 1
    · rw [if_pos h, if_pos h]
    · rw [if_neg h, if_neg h]
theorem sheetEntry_in (k x : Int32) : in_ 61 (fX11_sheetEntry k x) := by
  rw [sheetEntry_m]
  exact clamp60 _
theorem T_sheet {D : Nat} (hD : 2 ≤ D) (k x f s : Int32) (μ : m2M) (h : REL μ) : stp D yX11_sheet cX11_sheet 7 (some .int) yX12_sheet cX12_sheet 9 (some .int) [.int k, .int x, .int f, .int s] μ REL := by
  obtain ⟨D, rfl⟩ : ∃ E, D = E + 1 := ⟨D - 1, by omega⟩
  obtain ⟨n, p, h1, h2, h3, h4, h5, h6, h7, h8, h9⟩ := id h
  obtain ⟨d1, d2, d3, d4⟩ := id h1
  by_cases ok : in_ 4 k ∧ x ≤ 20 ∧ (¬ 3 ≤ k → 0 ≤ x)
  · obtain ⟨ok1, ok2, ok3⟩ := ok
    obtain ⟨ik, ic⟩ := in_kind ok1
    have k0 : ¬ k < 0 ∧ ¬ 3 < k := by
      obtain ⟨a, ha, rfl⟩ := ok1
      exact ⟨nI_pos (by omega), nI_nlt (a := 3) (by omega) (by decide)⟩
    let F := shF μ k x f s
    have hL : ∀ d, d < n → in_ 61 (F d) := by
      intro d hd
      show in_ 61 (if k = 3 ∨ x ≤ nI d then _ else _)
      by_cases w : k = 3 ∨ x ≤ nI d
      · rw [if_pos w]; exact (d4 d hd).2.2.2.2.2.1
      · rw [if_neg w]; exact sheetEntry_in _ _
    refine T_of (some (.int (if 3 ≤ k then -3 else sml F n))) (m2_sr μ kM_left (lft (μ.1 kM_left) F n)) ?_ (fun ν hv => ?_)
    · refine m2_MT.intro (ls := [.ref kC, .int k, .int x, .int f, .int s, .null, .null]) (by decide +kernel) rfl (ble rfl) (fun κ hk => ?_)
      let v5 : Int32 := if 3 ≤ k then 0 else x
      have hend : ∀ μ', μ' = m2_sr μ kD_left (lft (μ.1 kD_left) F n) → REL2 (m2_sr μ kM_left (lft (μ.1 kM_left) F n)) μ' ∧ frC μ μ' := by
        rintro μ' rfl
        refine ⟨REL2.left h ?_, fr_sr rfl fr.rf⟩
        intro n' e1 e2 d hd
        have : n' = n := (nI_eq (by omega) (by omega)).mp (e1.symm.trans d2)
        subst this
        unfold lft
        rw [if_pos hd, if_pos hd]
        exact ⟨rfl, hL d hd⟩
      have loop : κ 44 [.ref kC, .int k, .int x, .int f, .int s, .int v5, .int 0] [] μ := by
        have key := dn (n := n) (G := fun i => κ 44 [.ref kC, .int k, .int x, .int f, .int s, .int v5, .int (nI i)] [] (m2_sr μ kD_left (lft (μ.1 kD_left) F i))) ?_ (fun i hi ih => ?_)
        · rw [lft_0, m2_sr_id] at key
          exact key
        · refine B_X11_sheet_44 hk (by omega) ⟨fun _ => ⟨fun q => ?_, fun q => ?_⟩, fun q => absurd (show μ.1 kD 6 ≤ nI n by rw [d1]; exact nI_le (Nat.le_refl n) (by omega)) q⟩
          · exact ⟨by rw [if_pos q], hend _ rfl⟩
          · refine ⟨_, S_sumLeft (m2_sr μ kD_left (lft (μ.1 kD_left) F n)) d1 d3, fun y4 μ5 r5 => ?_⟩
            rw [r5.2, r5.1, if_neg q]
            refine ⟨?_, hend _ rfl⟩
            rw [sml_congr (g := F)]
            intro i hi
            exact if_pos hi
        · refine B_X11_sheet_44 hk (by omega) ⟨fun q => absurd (show nI n ≤ nI i by rw [← d1]; exact q) (nI_ge hi (by omega)), fun _ => ?_⟩
          have hin : vp_in (nI i) 20 := vp_in_nI (by omega) (by decide)
          rw [nI_clamp (by omega), nI_1, m2_si_sr, m2_si_sr]
          have e6 : (m2_sr μ kD_left (lft (μ.1 kD_left) F i)).1 kD_lets i = μ.1 kM_lets i := (d4 i hi).1.2.2.2.1
          rw [e6]
          refine ⟨fun q => ⟨hin, ?_⟩, fun q => ⟨hin, ?_⟩⟩
          · rw [show μ.1 kM_lets i = F i from ?_, lft_s]
            · exact ih
            · refine (if_pos ?_).symm
              by_cases w : k = 3
              · exact Or.inl w
              · refine Or.inr ?_
                have : v5 = x := if_neg (fun z => w (ik.mp z))
                rw [this] at q
                exact q
          · rw [show fX11_sheetEntry k (f + nI i * s) = F i from ?_, lft_s]
            · exact ih
            · refine (if_neg ?_).symm
              rintro (w | w)
              · refine q ?_
                have : v5 = 0 := if_pos (ik.mpr w)
                rw [this]
                exact nI_pos' (by omega)
              · refine q ?_
                show (if 3 ≤ k then 0 else x) ≤ nI i
                by_cases z : 3 ≤ k
                · rw [if_pos z]; exact nI_pos' (by omega)
                · rw [if_neg z]; exact w
      exact B_X11_sheet_0 hk ⟨fun q => absurd q k0.1, fun _ => ⟨fun q => absurd q k0.2, fun _ => ⟨fun _ => ⟨fun _ => loop, fun q => ⟨fun _ => loop, fun z => absurd (ok3 q) z⟩⟩, fun q => absurd ok2 q⟩⟩⟩
    · have hv' := hv.thr
      have g0 : ν.1 kM 0 = nI n := (hv.1 kM 0 rfl rfl).trans d2
      have hl : ∀ d, ν.1 kM_left d = μ.1 kM_left d := fun d => hv.1 kM_left d rfl rfl
      refine m2_MT.intro (ls := [.ref kM, .int k, .int x, .int f, .int s, .null, .null, .null, .null]) (by decide +kernel) rfl (ble rfl) (fun κ hk => ?_)
      have loop : κ 43 [.ref kM, .int k, .int x, .int f, .int s, .int 0, .int f, .int 0, .null] [] (m2_si ν kM 22 0) := by
        have key := dn (n := n) (G := fun i => κ 43 [.ref kM, .int k, .int x, .int f, .int s, .int (sml F i), .int (f + nI i * s), .int (nI i), .null] [] (m2_sr (m2_si ν kM 22 0) kM_left (lft (μ.1 kM_left) F i))) ?_ (fun i hi ih => ?_)
        · rw [lft_0] at key
          rw [show m2_sr (m2_si ν kM 22 0) kM_left (μ.1 kM_left) = m2_si ν kM 22 0 from by rw [← show ν.1 kM_left = μ.1 kM_left from funext hl]; exact m2_sr_id (m2_si ν kM 22 0) kM_left] at key
          rw [show f + nI 0 * s = f from by rw [nI_0, Int32.zero_mul, Int32.add_zero]] at key
          exact key
        · refine B_X12_sheet_43 hk (Nat.zero_le _) ⟨fun _ => ⟨?_, hv'.sr (by decide) (fun j _ => rfl), fr_sr rfl (fr_si rfl fr.rf)⟩, fun q => absurd (show ν.1 kM 0 ≤ nI n by rw [g0]; exact nI_le (Nat.le_refl n) (by omega)) q⟩
          by_cases w : k = 3
          · rw [if_pos w, if_pos (ik.mpr w)]
          · rw [if_neg w, if_neg (fun z => w (ik.mp z))]
        · refine B_X12_sheet_43 hk (Nat.zero_le _) ⟨fun q => absurd (show nI n ≤ nI i by rw [← g0]; exact q) (nI_ge hi (by omega)), fun _ => ?_⟩
          have hin : vp_in (nI i) 20 := vp_in_nI (by omega) (by decide)
          have e6 : (m2_sr (m2_si ν kM 22 0) kM_left (lft (μ.1 kM_left) F i)).1 kM_lets i = μ.1 kM_lets i := hv.1 kM_lets i rfl rfl
          have stp : ∀ y : Int32, y = F i → κ 43 [.ref kM, .int k, .int x, .int f, .int s, .int (sml F i + ((m2_si (m2_sr (m2_si ν kM 22 0) kM_left (lft (μ.1 kM_left) F i)) kM_left i y).1 kM_left i)), .int (f + nI i * s + s), .int (nI (i + 1)), .null] [] (m2_si (m2_sr (m2_si ν kM 22 0) kM_left (lft (μ.1 kM_left) F i)) kM_left i y) := by
            rintro y rfl
            rw [m2_si_sr, lft_s, m2_sr_same, show lft (μ.1 kM_left) F (i + 1) i = F i from if_pos (by omega), Int32.add_assoc, ← sheet_mul]
            exact ih
          rw [nI_clamp (by omega), nI_1, e6]
          refine ⟨fun q => ⟨hin, stp _ (if_pos (Or.inl q)).symm⟩, fun q => ⟨fun q2 => ⟨hin, stp _ ?_⟩, fun q2 => ⟨hin, stp _ ?_⟩⟩⟩
          · rw [← sheetEntry_m]
            refine (if_neg ?_).symm
            rintro (w | w)
            · exact q w
            · exact Int32.not_le.mpr q2 w
          · exact (if_pos (Or.inr (Int32.not_lt.mp q2))).symm
      exact B_X12_sheet_0 hk (Nat.zero_le _) ⟨fun _ => ⟨fun _ => ⟨fun _ => loop, fun q => ⟨fun _ => loop, fun z => absurd (ok3 q) z⟩⟩, fun q => absurd ok2 q⟩, fun q => absurd ((in_k (k := 3) (by decide)).mpr ok1) q⟩
  · classical
    refine T_of (some (.int (if in_ 4 k ∧ x ≤ 20 then -2 else -1))) μ ?_ (fun ν hv => ?_)
    · refine m2_MT.intro (ls := [.ref kC, .int k, .int x, .int f, .int s, .null, .null]) (by decide +kernel) rfl (ble rfl) (fun κ hk => ?_)
      have no : ∀ q : ¬ (in_ 4 k ∧ x ≤ 20), (some (Value.int (-1)) = some (Value.int (if in_ 4 k ∧ x ≤ 20 then -2 else -1)) ∧ REL2 μ μ ∧ frC μ μ) := fun q => ⟨by rw [if_neg q], h, fr.rf⟩
      have ink : ¬ k < 0 → ¬ 3 < k → in_ 4 k := fun q0 q1 => i32_in (k := 4) (by decide) q0 ((i32_lt_succ (k := 3) (by decide)).mpr q1)
      refine B_X11_sheet_0 hk ⟨fun q => no (fun z => ?_), fun q0 => ⟨fun q => no (fun z => ?_), fun q1 => ⟨fun q2 => ⟨fun q3 => absurd ⟨ink q0 q1, q2, fun z => absurd q3 z⟩ ok, fun q3 => ⟨fun q4 => absurd ⟨ink q0 q1, q2, fun _ => q4⟩ ok, fun _ => ⟨by rw [if_pos ⟨ink q0 q1, q2⟩], h, fr.rf⟩⟩⟩, fun q => no (fun z => q z.2)⟩⟩⟩
      · obtain ⟨a, ha, rfl⟩ := z.1
        exact nI_pos (by omega) q
      · obtain ⟨a, ha, rfl⟩ := z.1
        exact nI_nlt (a := 3) (by omega) (by decide) q
    · have no : ∀ q : ¬ (in_ 4 k ∧ x ≤ 20), (some (Value.int (-1)) = some (Value.int (if in_ 4 k ∧ x ≤ 20 then -2 else -1)) ∧ vM μ (m2_si ν kM 22 0) ∧ frM ν (m2_si ν kM 22 0)) := fun q => ⟨by rw [if_neg q], hv.thr, fr_si rfl fr.rf⟩
      refine m2_MT.intro (ls := [.ref kM, .int k, .int x, .int f, .int s, .null, .null, .null, .null]) (by decide +kernel) rfl (ble rfl) (fun κ hk => ?_)
      exact B_X12_sheet_0 hk (Nat.zero_le _) ⟨fun q => ⟨fun q2 => ⟨fun q3 => absurd ⟨(in_k (k := 3) (by decide)).mp q, q2, fun z => absurd q3 z⟩ ok, fun q3 => ⟨fun q4 => absurd ⟨(in_k (k := 3) (by decide)).mp q, q2, fun _ => q4⟩ ok, fun _ => ⟨by rw [if_pos ⟨(in_k (k := 3) (by decide)).mp q, q2⟩], hv.thr, fr_si rfl fr.rf⟩⟩⟩, fun q2 => no (fun z => q2 z.2)⟩, fun q => no (fun z => q ((in_k (k := 3) (by decide)).mpr z.1))⟩
