/-! bits and sums; count, hours, sheet -/
def bts (f : Nat → Bool) : Nat → Int32
  | 0 => 0
  | i + 1 => bts f i ||| (if f i = true then (1 : Int32) <<< (nI i &&& 31) else 0)
def sml (f : Nat → Int32) : Nat → Int32
  | 0 => 0
  | i + 1 => sml f i + f i
theorem bts_congr {f g : Nat → Bool} : ∀ {n : Nat}, (∀ i, i < n → f i = g i) → bts f n = bts g n
  | 0, _ => rfl
  | n + 1, h => by
    show bts f n ||| _ = bts g n ||| _
    rw [bts_congr (fun i hi => h i (by omega)), h n (by omega)]
theorem sml_congr {f g : Nat → Int32} : ∀ {n : Nat}, (∀ i, i < n → f i = g i) → sml f n = sml g n
  | 0, _ => rfl
  | n + 1, h => by
    show sml f n + _ = sml g n + _
    rw [sml_congr (fun i hi => h i (by omega)), h n (by omega)]
theorem shl_if {c : Prop} [Decidable c] (s : Int32) : ((if c then 0 else 1 : Int32) <<< s) = if c then 0 else (1 : Int32) <<< s := by
  by_cases h : c
  · rw [if_pos h, if_pos h]; exact Int32.zero_shiftLeft
  · rw [if_neg h, if_neg h]
theorem bts_s1 {c : Prop} [Decidable c] {f : Nat → Bool} {i : Nat} (h : f i = true ↔ ¬ c) : bts f i ||| (if c then 0 else (1 : Int32) <<< (nI i &&& 31)) = bts f (i + 1) := by
  show _ = bts f i ||| _
  by_cases q : c
  · have : f i = false := by
      cases e : f i with
      | false => rfl
      | true => exact absurd q (h.mp e)
    rw [if_pos q, this]
    rfl
  · rw [if_neg q, h.mpr q]
    rfl
theorem S_openBits {D n : Nat} (hD : 1 ≤ D) (μ : m2M) (hn : μ.1 kD 6 = nI n) (hn20 : n ≤ 20) : m2_MT D yX0_openBits cX0_openBits 3 (some .int) [.ref kD] μ (fun r μ' => r = some (.int (bts (fun d => !decide (μ.1 kD_left d ≤ 0)) n)) ∧ μ' = μ) := by
  obtain ⟨D, rfl⟩ : ∃ E, D = E + 1 := ⟨D - 1, by omega⟩
  refine m2_MT.intro (ls := [.ref kD, .null, .null]) (by decide +kernel) rfl (ble rfl) (fun κ hk => ?_)
  refine B_X0_openBits_0 hk ?_
  refine dn (n := n) (G := fun i => κ 4 [.ref kD, .int (bts (fun d => !decide (μ.1 kD_left d ≤ 0)) i), .int (nI i)] [] μ) ?_ (fun i hi ih => ?_)
  · exact B_X0_openBits_4 hk (Nat.zero_le _) ⟨fun _ => ⟨rfl, rfl⟩, fun q => absurd (by rw [hn]; exact nI_le (Nat.le_refl n) (by omega)) q⟩
  · refine B_X0_openBits_4 hk (Nat.zero_le _) ⟨fun q => absurd (by rw [hn] at q; exact q) (nI_ge hi (by omega)), fun _ => ⟨vp_in_nI (by omega) (by decide), ?_⟩⟩
    rw [nI_clamp (by omega), shl_if, bts_s1 (by simp), nI_1]
    exact ih
theorem S_doneBits {D n : Nat} (hD : 1 ≤ D) (μ : m2M) (hn : μ.1 kP 8 = nI n) (hn20 : n ≤ 8) : m2_MT D yX6_doneBits cX6_doneBits 3 (some .int) [.ref kP] μ (fun r μ' => r = some (.int (bts (fun d => !decide (μ.1 kP_done d = 0)) n)) ∧ μ' = μ) := by
  obtain ⟨D, rfl⟩ : ∃ E, D = E + 1 := ⟨D - 1, by omega⟩
  refine m2_MT.intro (ls := [.ref kP, .null, .null]) (by decide +kernel) rfl (ble rfl) (fun κ hk => ?_)
  refine B_X6_doneBits_0 hk ?_
  refine dn (n := n) (G := fun i => κ 4 [.ref kP, .int (bts (fun d => !decide (μ.1 kP_done d = 0)) i), .int (nI i)] [] μ) ?_ (fun i hi ih => ?_)
  · exact B_X6_doneBits_4 hk (Nat.zero_le _) ⟨fun _ => ⟨rfl, rfl⟩, fun q => absurd (by rw [hn]; exact nI_le (Nat.le_refl n) (by omega)) q⟩
  · refine B_X6_doneBits_4 hk (Nat.zero_le _) ⟨fun q => absurd (by rw [hn] at q; exact q) (nI_ge hi (by omega)), fun _ => ⟨vp_in_nI (by omega) (by decide), ?_⟩⟩
    rw [nI_clamp (by omega), shl_if, bts_s1 (by simp), nI_1]
    exact ih
theorem S_sumLeft {D n : Nat} (μ : m2M) (hn : μ.1 kD 6 = nI n) (hn20 : n ≤ 20) : m2_MT D yX0_sumLeft cX0_sumLeft 3 (some .int) [.ref kD] μ (fun r μ' => r = some (.int (sml (μ.1 kD_left) n)) ∧ μ' = μ) := by
  refine m2_MT.intro (ls := [.ref kD, .null, .null]) (by decide +kernel) rfl (ble rfl) (fun κ hk => ?_)
  refine B_X0_sumLeft_0 hk ?_
  refine dn (n := n) (G := fun i => κ 4 [.ref kD, .int (sml (μ.1 kD_left) i), .int (nI i)] [] μ) ?_ (fun i hi ih => ?_)
  · exact B_X0_sumLeft_4 hk ⟨fun _ => ⟨rfl, rfl⟩, fun q => absurd (by rw [hn]; exact nI_le (Nat.le_refl n) (by omega)) q⟩
  · refine B_X0_sumLeft_4 hk ⟨fun q => absurd (by rw [hn] at q; exact q) (nI_ge hi (by omega)), fun _ => ⟨vp_in_nI (by omega) (by decide), ?_⟩⟩
    rw [nI_clamp (by omega), nI_1]
    exact ih
theorem T_count {D : Nat} (hD : 2 ≤ D) (x : Int32) (μ : m2M) (h : REL μ) : stp D yX11_count cX11_count 2 (some .int) yX12_count cX12_count 4 (some .int) [.int x] μ REL := by
  obtain ⟨D, rfl⟩ : ∃ E, D = E + 1 := ⟨D - 1, by omega⟩
  obtain ⟨n, p, h1, h2, h3, h4, h5, h6, h7, h8, h9⟩ := id h
  obtain ⟨s, s1, s2, s3, s4⟩ := id h5
  obtain ⟨d1, d2, d3, d4⟩ := id h1
  obtain ⟨p1, p2, p3, p4⟩ := id h2
  obtain ⟨t, t1, t2, t3, t4⟩ := id h3
  obtain ⟨r, r1, r2, r3, r4⟩ := id h4
  have b3 : bts (fun d => !decide (μ.1 kD_left d ≤ 0)) n = bts (fun d => !decide (μ.1 kM_left d ≤ 0)) n := bts_congr fun i hi => by rw [(d4 i hi).1.2.2.2.2.1]
  have b4 : sml (μ.1 kD_left) n = sml (μ.1 kM_left) n := sml_congr fun i hi => (d4 i hi).1.2.2.2.2.1
  have b9 : bts (fun d => !decide (μ.1 kP_done d = 0)) p = bts (fun d => !decide (μ.1 kM_isDone d = 0)) p := bts_congr fun i hi => by rw [(p4 i hi).1.2.2.2.2.2.2.2]
  refine T_of (some (.int (if x = 0 then nI n else if x = 1 then nI p else if x = 2 then μ.1 kM 16 else if x = 3 then bts (fun d => !decide (μ.1 kM_left d ≤ 0)) n else if x = 4 then sml (μ.1 kM_left) n else if x = 5 then nI s else if x = 6 then μ.1 kM 17 else if x = 7 then nI r else if x = 8 then nI t else if x = 9 then bts (fun d => !decide (μ.1 kM_isDone d = 0)) p else -1))) μ ?_ (fun ν hv => ?_)
  · refine m2_MT.intro (ls := [.ref kC, .int x]) (by decide +kernel) rfl (ble rfl) (fun κ hk => ?_)
    refine B_X11_count_0 hk ⟨fun q => ⟨by simp only [if_pos q]; rw [d1], h, fr.rf⟩, fun q0 => ⟨fun q => ⟨by simp only [if_neg q0, if_pos q]; rw [p1], h, fr.rf⟩, fun q1 => ⟨fun q => ⟨by simp only [if_neg q0, if_neg q1, if_pos q]; rw [h7.1], h, fr.rf⟩, fun q2 => ⟨fun q => ?_, fun q3 => ⟨fun q => ?_, fun q4 => ⟨fun q => ⟨by simp only [if_neg q0, if_neg q1, if_neg q2, if_neg q3, if_neg q4, if_pos q]; rw [s2], h, fr.rf⟩, fun q5 => ⟨fun q => ⟨by simp only [if_neg q0, if_neg q1, if_neg q2, if_neg q3, if_neg q4, if_neg q5, if_pos q]; rw [h8.1], h, fr.rf⟩, fun q6 => ⟨fun q => ⟨by simp only [if_neg q0, if_neg q1, if_neg q2, if_neg q3, if_neg q4, if_neg q5, if_neg q6, if_pos q]; rw [r2], h, fr.rf⟩, fun q7 => ⟨fun q => ⟨by simp only [if_neg q0, if_neg q1, if_neg q2, if_neg q3, if_neg q4, if_neg q5, if_neg q6, if_neg q7, if_pos q]; rw [t2], h, fr.rf⟩, fun q8 => ⟨fun q => ?_, fun q9 => ⟨by simp only [if_neg q0, if_neg q1, if_neg q2, if_neg q3, if_neg q4, if_neg q5, if_neg q6, if_neg q7, if_neg q8, if_neg q9], h, fr.rf⟩⟩⟩⟩⟩⟩⟩⟩⟩⟩⟩
    · simp only [if_neg q0, if_neg q1, if_neg q2, if_pos q]
      exact ⟨_, S_openBits (by omega) μ d1 d3, fun y5 μ6 r6 => ⟨by rw [r6.1, b3], by rw [r6.2]; exact h, by rw [r6.2]; exact fr.rf⟩⟩
    · simp only [if_neg q0, if_neg q1, if_neg q2, if_neg q3, if_pos q]
      exact ⟨_, S_sumLeft μ d1 d3, fun y5 μ6 r6 => ⟨by rw [r6.1, b4], by rw [r6.2]; exact h, by rw [r6.2]; exact fr.rf⟩⟩
    · simp only [if_neg q0, if_neg q1, if_neg q2, if_neg q3, if_neg q4, if_neg q5, if_neg q6, if_neg q7, if_neg q8, if_pos q]
      exact ⟨_, S_doneBits (by omega) μ p1 p3, fun y5 μ6 r6 => ⟨by rw [r6.1, b9], by rw [r6.2]; exact h, by rw [r6.2]; exact fr.rf⟩⟩
  · have hv' := hv.thr
    have f1 : frM ν (m2_si ν kM 22 0) := fr_si rfl fr.rf
    have g0 : ν.1 kM 0 = nI n := (hv.1 kM 0 rfl rfl).trans d2
    have g7 : ν.1 kM 7 = nI p := (hv.1 kM 7 rfl rfl).trans p2
    refine m2_MT.intro (ls := [.ref kM, .int x, .null, .null]) (by decide +kernel) rfl (ble rfl) (fun κ hk => ?_)
    refine B_X12_count_0 hk ⟨fun q => ⟨by simp only [if_pos q]; rw [g0], hv', f1⟩, fun q0 => ⟨fun q => ⟨by simp only [if_neg q0, if_pos q]; rw [g7], hv', f1⟩, fun q1 => ⟨fun q => ⟨by simp only [if_neg q0, if_neg q1, if_pos q]; rw [hv.1 kM 16 rfl rfl], hv', f1⟩, fun q2 => ⟨fun q => ?_, fun q3 => ⟨fun q => ?_, fun q4 => ⟨fun q => ⟨by simp only [if_neg q0, if_neg q1, if_neg q2, if_neg q3, if_neg q4, if_pos q]; rw [hv.1 kM 64 rfl rfl, s3], hv', f1⟩, fun q5 => ⟨fun q => ⟨by simp only [if_neg q0, if_neg q1, if_neg q2, if_neg q3, if_neg q4, if_neg q5, if_pos q]; rw [hv.1 kM 17 rfl rfl], hv', f1⟩, fun q6 => ⟨fun q => ⟨by simp only [if_neg q0, if_neg q1, if_neg q2, if_neg q3, if_neg q4, if_neg q5, if_neg q6, if_pos q]; rw [hv.1 kM 21 rfl rfl, r3], hv', f1⟩, fun q7 => ⟨fun q => ⟨by simp only [if_neg q0, if_neg q1, if_neg q2, if_neg q3, if_neg q4, if_neg q5, if_neg q6, if_neg q7, if_pos q]; rw [hv.1 kM 19 rfl rfl, t3], hv', f1⟩, fun q8 => ⟨fun q => ?_, fun q9 => ⟨by simp only [if_neg q0, if_neg q1, if_neg q2, if_neg q3, if_neg q4, if_neg q5, if_neg q6, if_neg q7, if_neg q8, if_neg q9], hv', f1⟩⟩⟩⟩⟩⟩⟩⟩⟩⟩⟩
    · simp only [if_neg q0, if_neg q1, if_neg q2, if_pos q] at hk
      refine dn (n := n) (G := fun i => κ 81 [.ref kM, .int x, .int (bts (fun d => !decide (μ.1 kM_left d ≤ 0)) i), .int (nI i)] [] (m2_si ν kM 22 0)) ?_ (fun i hi ih => ?_)
      · exact B_X12_count_81 hk ⟨fun _ => ⟨rfl, hv', f1⟩, fun q => absurd (by rw [show (m2_si ν kM 22 0).1 kM 0 = nI n from g0]; exact nI_le (Nat.le_refl n) (by omega)) q⟩
      · refine B_X12_count_81 hk ⟨fun q => absurd (by rw [show (m2_si ν kM 22 0).1 kM 0 = nI n from g0] at q; exact q) (nI_ge hi (by omega)), fun _ => ⟨vp_in_nI (by omega) (by decide), ?_⟩⟩
        rw [nI_clamp (by omega), hv'.1 kM_left i rfl rfl, bts_s1 (by simp), nI_1]
        exact ih
    · simp only [if_neg q0, if_neg q1, if_neg q2, if_neg q3, if_pos q] at hk
      refine dn (n := n) (G := fun i => κ 118 [.ref kM, .int x, .int (sml (μ.1 kM_left) i), .int (nI i)] [] (m2_si ν kM 22 0)) ?_ (fun i hi ih => ?_)
      · exact B_X12_count_118 hk ⟨fun _ => ⟨rfl, hv', f1⟩, fun q => absurd (by rw [show (m2_si ν kM 22 0).1 kM 0 = nI n from g0]; exact nI_le (Nat.le_refl n) (by omega)) q⟩
      · refine B_X12_count_118 hk ⟨fun q => absurd (by rw [show (m2_si ν kM 22 0).1 kM 0 = nI n from g0] at q; exact q) (nI_ge hi (by omega)), fun _ => ⟨vp_in_nI (by omega) (by decide), ?_⟩⟩
        rw [nI_clamp (by omega), hv'.1 kM_left i rfl rfl, nI_1]
        exact ih
    · simp only [if_neg q0, if_neg q1, if_neg q2, if_neg q3, if_neg q4, if_neg q5, if_neg q6, if_neg q7, if_neg q8, if_pos q] at hk
      refine dn (n := p) (G := fun i => κ 165 [.ref kM, .int x, .int (bts (fun d => !decide (μ.1 kM_isDone d = 0)) i), .int (nI i)] [] (m2_si ν kM 22 0)) ?_ (fun i hi ih => ?_)
      · exact B_X12_count_165 hk ⟨fun _ => ⟨rfl, hv', f1⟩, fun q => absurd (by rw [show (m2_si ν kM 22 0).1 kM 7 = nI p from g7]; exact nI_le (Nat.le_refl p) (by omega)) q⟩
      · refine B_X12_count_165 hk ⟨fun q => absurd (by rw [show (m2_si ν kM 22 0).1 kM 7 = nI p from g7] at q; exact q) (nI_ge hi (by omega)), fun _ => ⟨vp_in_nI (by omega) (by decide), ?_⟩⟩
        rw [nI_clamp (by omega), hv'.1 kM_isDone i rfl rfl, bts_s1 (by simp), nI_1]
        exact ih
