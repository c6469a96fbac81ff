/-! sign, says, hours -/
theorem has_in {x : Int32} {n : Nat} (hn : n < 2 ^ 31) : (¬ x < 0 ∧ ¬ nI n ≤ x) ↔ in_ n x := by
  constructor
  · rintro ⟨h1, h2⟩
    exact i32_in hn h1 (Int32.not_le.mp h2)
  · rintro ⟨a, ha, rfl⟩
    exact ⟨nI_pos (by omega), nI_ge ha hn⟩
theorem fX0_has_iff {x : Int32} {μ : m2M} {n : Nat} (h : μ.1 kD 6 = nI n) (hn : n ≤ 20) : fX0_has x μ = 1 ↔ in_ n x := by
  rw [← has_in (by omega)]
  unfold fX0_has
  rw [h]
  by_cases h1 : x < 0
  · rw [if_pos h1]; exact ⟨fun q => absurd q (by decide), fun q => absurd h1 q.1⟩
  · rw [if_neg h1]
    by_cases h2 : nI n ≤ x
    · rw [if_pos h2]; exact ⟨fun q => absurd q (by decide), fun q => absurd h2 q.2⟩
    · rw [if_neg h2]; exact ⟨fun _ => ⟨h1, h2⟩, fun _ => rfl⟩
theorem fX6_has_iff {x : Int32} {μ : m2M} {n : Nat} (h : μ.1 kP 8 = nI n) (hn : n ≤ 8) : fX6_has x μ = 1 ↔ in_ n x := by
  rw [← has_in (by omega)]
  unfold fX6_has
  rw [h]
  by_cases h1 : x < 0
  · rw [if_pos h1]; exact ⟨fun q => absurd q (by decide), fun q => absurd h1 q.1⟩
  · rw [if_neg h1]
    by_cases h2 : nI n ≤ x
    · rw [if_pos h2]; exact ⟨fun q => absurd q (by decide), fun q => absurd h2 q.2⟩
    · rw [if_neg h2]; exact ⟨fun _ => ⟨h1, h2⟩, fun _ => rfl⟩
theorem in_m1 {x : Int32} {n : Nat} (hn : n ≤ 100) : fX12_in x 0 (nI n - 1) = 1 ↔ in_ n x := by
  rw [fX12_in_iff]
  constructor
  · rintro ⟨h1, h2⟩
    match n, hn, h2 with
    | 0, _, h2 =>
      exfalso
      apply h2
      obtain ⟨j, hj, rfl⟩ := nI_of h1
      rw [Int32.lt_iff_toInt_lt, nI_toInt hj]
      have : (nI 0 - 1 : Int32).toInt = -1 := by decide
      omega
    | k + 1, _, h2 =>
      rw [nI_pred] at h2
      exact i32_in (by omega) h1 ((i32_lt_succ (k := k) (by omega)).mpr h2)
  · rintro ⟨a, ha, rfl⟩
    refine ⟨nI_pos (by omega), ?_⟩
    obtain ⟨k, rfl⟩ : ∃ k, n = k + 1 := ⟨n - 1, by omega⟩
    rw [nI_pred]
    exact nI_nlt (by omega) (by omega)
theorem fX12_isDoor_iff {x : Int32} {μ : m2M} {n : Nat} (h : μ.1 kM 0 = nI n) (hn : n ≤ 20) : fX12_isDoor x μ = 1 ↔ in_ n x := by
  unfold fX12_isDoor
  rw [h, ← in_m1 (x := x) (n := n) (by omega)]
  by_cases q : fX12_in x 0 (nI n - 1) = 1
  · rw [if_pos q]; exact ⟨fun _ => q, fun _ => rfl⟩
  · rw [if_neg q]; exact ⟨fun z => absurd z (by decide), fun z => absurd z q⟩
theorem fX12_isOne_iff {x : Int32} {μ : m2M} {n : Nat} (h : μ.1 kM 7 = nI n) (hn : n ≤ 8) : fX12_isOne x μ = 1 ↔ in_ n x := by
  unfold fX12_isOne
  rw [h, ← in_m1 (x := x) (n := n) (by omega)]
  by_cases q : fX12_in x 0 (nI n - 1) = 1
  · rw [if_pos q]; exact ⟨fun _ => q, fun _ => rfl⟩
  · rw [if_neg q]; exact ⟨fun z => absurd z (by decide), fun z => absurd z q⟩
theorem in_k {x : Int32} {k : Nat} (hk : k < 100) : fX12_in x 0 (nI k) = 1 ↔ in_ (k + 1) x := by
  rw [← in_m1 (x := x) (n := k + 1) (by omega)]
  · rw [nI_pred]
/-- one sign: the class's char, the reference's byte -/
def sgn (x y : Int32) : Prop := ∃ b : Nat, b < 256 ∧ x = nI b ∧ y = (nI b).toInt8.toInt32
theorem i8_and (y : Int32) : (y &&& 255).toInt8 = y.toInt8 := by
  apply Int8.toBitVec_inj.mp
  apply BitVec.eq_of_getLsbD_eq
  intro i hi
  rw [Int32.toBitVec_toInt8, Int32.toBitVec_toInt8, BitVec.signExtend_eq_setWidth_of_le _ (by decide), BitVec.signExtend_eq_setWidth_of_le _ (by decide)]
  simp only [Int32.toBitVec_and, BitVec.getLsbD_setWidth, BitVec.getLsbD_and]
  have : (255 : Int32).toBitVec.getLsbD i = true := by
    have : ∀ i, i < 8 → (255 : Int32).toBitVec.getLsbD i = true := by decide
    exact this i hi
  rw [this]
  simp
theorem sgn_of (y : Int32) : sgn (vp_nar .char ((y &&& (255 : Int32)).toUInt32 % 65536).toInt32) (vp_nar .byte y.toInt8.toInt32) := by
  obtain ⟨j, hj, e⟩ := pk_andE y (m := 255) 8 (by decide)
  refine ⟨j, hj, ?_, ?_⟩
  · rw [pk_vc, sc_c2, e]
  · rw [pk_vb, ← e, i8_and]
def txt (f g : Nat → Int32) : Prop := ∀ i, i < 80 → sgn (f i) (g i)
theorem txt_upd {f g : Nat → Int32} (h : txt f g) (j : Nat) {x y : Int32} (q : sgn x y) : txt (upd f j x) (upd g j y) := by
  intro i hi
  unfold upd
  by_cases e : i = j
  · rw [if_pos e, if_pos e]; exact q
  · rw [if_neg e, if_neg e]; exact h i hi
theorem sg_c (μ : m2M) (f : Nat → Int32) (j : Nat) (a x b : Int32) : m2_si (m2_si (m2_si (m2_sr μ kC_text f) kC 1 a) kC_text j x) kC 1 b = m2_si (m2_sr μ kC_text (upd f j x)) kC 1 b := by
  rw [m2_si_comm _ (show kC ≠ kC_text by decide), m2_si_si, m2_si_sr]
theorem sg_m (μ : m2M) (f : Nat → Int32) (j : Nat) (a x b : Int32) : m2_si (m2_si (m2_si (m2_sr μ kM_text f) kM 19 a) kM 19 b) kM_text j x = m2_si (m2_sr μ kM_text (upd f j x)) kM 19 b := by
  rw [m2_si_si, m2_si_comm _ (show kM ≠ kM_text by decide), m2_si_sr]
set_option maxHeartbeats 4000000 in
theorem T_sign {D : Nat} (x : Int32) (μ : m2M) (h : REL μ) : stp D yX11_sign cX11_sign 3 (some .int) yX12_sign cX12_sign 3 (some .int) [.int x] μ REL := by
  obtain ⟨n, p, h1, h2, h3, h4, h5, h6, h7, h8, h9⟩ := h
  obtain ⟨t, t1, t2, t3, t4⟩ := id h3
  have ht0 : txt (μ.1 kC_text) (μ.1 kM_text) := t4
  refine m2_MT.intro (ls := [.ref kC, .int x, .null]) (by decide +kernel) rfl (Nat.le_of_ble_eq_true rfl) (fun κ hk => ?_)
  refine B_X11_sign_0 hk ?_
  rw [t2, show (4 : Int32) = nI 4 from rfl, nI_add, show (80 : Int32) = nI 80 from rfl]
  refine ⟨fun q => ?_, fun q => ?_⟩
  · have hq : t + 4 ≤ 80 := (nI_leI (by omega) (by decide)).mp q
    -- one turn of the class's loop
    have c1 : ∀ (i : Nat) (s s' : Int32) (f : Nat → Int32), i < 4 → ¬ s < 0 → s + (-8) = s' → κ 16 [.ref kC, .int x, .int s'] [] (m2_si (m2_sr μ kC_text (upd f (t + i) (vp_nar .char (((x >>> (s &&& 31)) &&& (255 : Int32)).toUInt32 % 65536).toInt32))) kC 1 (nI (t + i + 1))) → κ 16 [.ref kC, .int x, .int s] [] (m2_si (m2_sr μ kC_text f) kC 1 (nI (t + i))) := by
      intro i s s' f hi hs hs' kk
      have e1 : (m2_si (m2_sr μ kC_text f) kC 1 (nI (t + i))).1 kC 1 = nI (t + i) := rfl
      refine B_X11_sign_16 hk ⟨fun z => absurd z hs, fun _ => ?_⟩
      rw [e1, nI_clamp (by omega), nI_1, sg_c, hs']
      exact ⟨vp_in_nI (by omega) (by decide), kk⟩
    have start : m2_si (m2_sr μ kC_text (μ.1 kC_text)) kC 1 (nI (t + 0)) = μ := by
      rw [m2_sr_id]
      unfold m2_si
      rw [show upd (μ.1 kC) 1 (nI (t + 0)) = μ.1 kC from ?_]
      · exact m2_sr_id μ kC
      · funext j
        unfold upd
        by_cases e : j = 1
        · rw [if_pos e, e, t2]; rfl
        · rw [if_neg e]
    have go := c1 0 24 16 (μ.1 kC_text) (by decide) (by decide) (by decide) (c1 1 16 8 _ (by decide) (by decide) (by decide) (c1 2 8 0 _ (by decide) (by decide) (by decide) (c1 3 0 (-8) _ (by decide) (by decide) (by decide) (?_))))
    · rw [start] at go
      exact go
    · refine B_X11_sign_16 hk ⟨fun _ => ?_, fun z => absurd (by decide) z⟩
      -- the reference
      refine m2_MT.intro (ls := [.ref kM, .int x, .null]) (by decide +kernel) rfl (Nat.le_of_ble_eq_true rfl) (fun κ' hk' => ?_)
      generalize hf : (upd (upd (upd (upd (μ.1 kC_text) (t + 0) _) (t + 1) _) (t + 2) _) (t + 3) _) = f4
      have em : (m2_si (m2_sr μ kC_text f4) kC 1 (nI (t + 3 + 1))).1 kM 19 = nI t := t3
      refine B_X12_sign_0 hk' ?_
      rw [em, show (4 : Int32) = nI 4 from rfl, nI_add, show (80 : Int32) = nI 80 from rfl]
      refine ⟨fun _ => ?_, fun z => absurd q z⟩
      generalize hν : m2_si (m2_si (m2_sr μ kC_text f4) kC 1 (nI (t + 3 + 1))) kM 22 0 = ν
      have n19 : ν.1 kM 19 = nI t := by rw [← hν]; exact t3
      have m1 : ∀ (i : Nat) (s s' : Int32) (g : Nat → Int32), i < 4 → ¬ s < 0 → s + (-1) = s' → κ' 20 [.ref kM, .int x, .int s'] [] (m2_si (m2_sr ν kM_text (upd g (t + i) (vp_nar .byte ((x >>> (((8 : Int32) * s) &&& 31))).toInt8.toInt32))) kM 19 (nI (t + i + 1))) → κ' 20 [.ref kM, .int x, .int s] [] (m2_si (m2_sr ν kM_text g) kM 19 (nI (t + i))) := by
        intro i s s' g hi hs hs' kk
        have e1 : (m2_si (m2_sr ν kM_text g) kM 19 (nI (t + i))).1 kM 19 = nI (t + i) := rfl
        refine B_X12_sign_20 hk' ⟨fun z => absurd z hs, fun _ => ?_⟩
        rw [e1, nI_clamp (by omega), nI_1, sg_m, hs']
        exact ⟨vp_in_nI (by omega) (by decide), kk⟩
      have start' : m2_si (m2_sr ν kM_text (ν.1 kM_text)) kM 19 (nI (t + 0)) = ν := by
        rw [m2_sr_id]
        unfold m2_si
        rw [show upd (ν.1 kM) 19 (nI (t + 0)) = ν.1 kM from ?_]
        · exact m2_sr_id ν kM
        · funext j
          unfold upd
          by_cases e : j = 19
          · rw [if_pos e, e, n19]; rfl
          · rw [if_neg e]
      have go' := m1 0 3 2 (ν.1 kM_text) (by decide) (by decide) (by decide) (m1 1 2 1 _ (by decide) (by decide) (by decide) (m1 2 1 0 _ (by decide) (by decide) (by decide) (m1 3 0 (-1) _ (by decide) (by decide) (by decide) (?_))))
      · rw [start'] at go'
        exact go'
      · refine B_X12_sign_20 hk' ⟨fun _ => ?_, fun z => absurd (by decide) z⟩
        subst hν
        refine ⟨rfl, n, p, h1, h2, ⟨t + 4, hq, rfl, rfl, ?_⟩, h4, h5, r_K_si (Or.inl (by decide)) rfl (r_K_sr (Or.inl (by decide)) rfl (r_K_si (Or.inl (by decide)) rfl (r_K_si (Or.inl (by decide)) rfl (r_K_sr (Or.inl (by decide)) rfl h6)))), h7, h8, h9⟩
        subst hf
        exact txt_upd (txt_upd (txt_upd (txt_upd ht0 _ (sgn_of _)) _ (sgn_of _)) _ (sgn_of _)) _ (sgn_of _)
  · refine m2_MT.intro (ls := [.ref kM, .int x, .null]) (by decide +kernel) rfl (Nat.le_of_ble_eq_true rfl) (fun κ' hk' => ?_)
    refine B_X12_sign_0 hk' ?_
    rw [t3, show (4 : Int32) = nI 4 from rfl, nI_add, show (80 : Int32) = nI 80 from rfl]
    exact ⟨fun z => absurd z q, fun _ => ⟨rfl, REL.ag ⟨n, p, h1, h2, h3, h4, h5, h6, h7, h8, h9⟩ ag_thrown⟩⟩
