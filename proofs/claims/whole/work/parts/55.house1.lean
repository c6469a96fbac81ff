/-! houses told as texts: what a LINE says; the class's reader -/
def nmR (hf : Nat → Int32) (hi : Int32) (a : Nat) : Bool × Nat × Int32 := if (cp_nH hf 2 a 0).2 = a then (false, a, 0) else if (cp_nH hf 2 a 0).1 ≤ hi then (true, (cp_nH hf 2 a 0).2, (cp_nH hf 2 a 0).1) else (false, (cp_nH hf 2 a 0).2 - 1, 0)
def rdD (hf : Nat → Int32) (a : Nat) : Bool × Nat × Int32 × Int32 × Int32 × Int32 × Int32 :=
  let r1 := nmR hf 11 a
  if r1.1 = true then
    if hf r1.2.1 = 62 ∨ hf r1.2.1 = 45 then
      let r2 := nmR hf 11 (r1.2.1 + 1)
      if r2.1 = true then
        if r2.2.2 = r1.2.2 then (false, r2.2.1 - 1, 0, 0, 0, 0, 0)
        else if hf r2.2.1 = 44 then
          let r3 := nmR hf 60 (r2.2.1 + 1)
          if r3.1 = true then
            if hf r3.2.1 = 64 then
              let r4 := nmR hf 60 (r3.2.1 + 1)
              if r4.1 = true then (true, r4.2.1, r1.2.2, r2.2.2, (if hf r1.2.1 = 62 then 1 else 0), r3.2.2, r4.2.2) else (false, r4.2.1, 0, 0, 0, 0, 0)
            else (true, r3.2.1, r1.2.2, r2.2.2, (if hf r1.2.1 = 62 then 1 else 0), r3.2.2, -1)
          else (false, r3.2.1, 0, 0, 0, 0, 0)
        else (false, r2.2.1, 0, 0, 0, 0, 0)
      else (false, r2.2.1, 0, 0, 0, 0, 0)
    else (false, r1.2.1, 0, 0, 0, 0, 0)
  else (false, r1.2.1, 0, 0, 0, 0, 0)
def rdO (hf : Nat → Int32) (a : Nat) : Bool × Nat × Int32 × Int32 × Int32 × Int32 :=
  let r1 := nmR hf 11 a
  if r1.1 = true then
    if hf r1.2.1 = 44 then
      let r2 := nmR hf 99 (r1.2.1 + 1)
      if r2.1 = true then
        if hf r2.2.1 = 62 then
          let r3 := nmR hf 11 (r2.2.1 + 1)
          if r3.1 = true then
            if hf r3.2.1 = 60 then (true, r3.2.1 + 1, r1.2.2, r2.2.2, r3.2.2, 1) else (true, r3.2.1, r1.2.2, r2.2.2, r3.2.2, 0)
          else (false, r3.2.1, 0, 0, 0, 0)
        else (true, r2.2.1, r1.2.2, r2.2.2, -1, 0)
      else (false, r2.2.1, 0, 0, 0, 0)
    else (false, r1.2.1, 0, 0, 0, 0)
  else (false, r1.2.1, 0, 0, 0, 0)
theorem nmR_pos {g : Nat → Int32} {k a : Nat} {hi : Int32} (ha : a ≤ 76) : a ≤ (nmR (cp_hT 76 g k) hi a).2.1 ∧ (nmR (cp_hT 76 g k) hi a).2.1 ≤ 76 := by
  obtain ⟨h1, h2, h3⟩ := nH_pos (top := 76) (k := k) (g := g) 2 a 0 ha
  unfold nmR
  by_cases z : (cp_nH (cp_hT 76 g k) 2 a 0).2 = a
  · rw [if_pos z]; exact ⟨Nat.le_refl a, ha⟩
  · rw [if_neg z]
    by_cases z2 : (cp_nH (cp_hT 76 g k) 2 a 0).1 ≤ hi
    · rw [if_pos z2]; exact ⟨h1, h2⟩
    · rw [if_neg z2]
      refine ⟨?_, ?_⟩ <;> simp only <;> omega
theorem nmR_val {hf : Nat → Int32} {a h : Nat} (hh : h < 100) (q : (nmR hf (nI h) a).1 = true) : in_ (h + 1) (nmR hf (nI h) a).2.2 := by
  unfold nmR at q ⊢
  by_cases z : (cp_nH hf 2 a 0).2 = a
  · rw [if_pos z] at q; cases q
  · rw [if_neg z] at q ⊢
    by_cases z2 : (cp_nH hf 2 a 0).1 ≤ nI h
    · rw [if_pos z2]
      obtain ⟨x, hx, ex⟩ := nH_val (hf := hf) 2 a 0 1 (by decide) (by decide)
      have ex : (cp_nH hf 2 a 0).1 = nI x := ex
      rw [ex] at z2
      have := (nI_leI (by omega) (by omega)).mp z2
      exact ⟨x, by omega, ex⟩
    · rw [if_neg z2] at q; cases q
theorem by8 : ∀ b : Fin 256, (b.val < 128 → (nI b.val).toInt8.toInt32 = nI b.val) ∧ (128 ≤ b.val → (nI b.val).toInt8.toInt32 < 0) := by decide +kernel
/-- the class's signs, the reference's -/
def txC (μ : m2M) (g : Nat → Int32) : Prop := ∀ i, i < 80 → ∃ b : Nat, b < 256 ∧ μ.1 kC_text i = nI b ∧ g i = (nI b).toInt8.toInt32
theorem tx_eq {b : Nat} (hb : b < 256) {c : Nat} (hc : c < 128) : nI b = nI c ↔ (nI b).toInt8.toInt32 = nI c := by
  obtain ⟨h1, h2⟩ := by8 ⟨b, hb⟩
  by_cases z : b < 128
  · rw [h1 z]
  · have h2 := h2 (by show 128 ≤ b; omega)
    constructor
    · intro q
      have := (nI_eq (by omega) (by omega)).mp q
      omega
    · intro q
      have h2 : (nI b).toInt8.toInt32 < 0 := h2
      rw [q] at h2
      exact absurd h2 (nI_pos (by omega))
theorem tx_dg {b : Nat} (hb : b < 256) : fX11_isDigit (nI b) = 1 ↔ cp_dg (nI b).toInt8.toInt32 = true := by
  obtain ⟨h1, h2⟩ := by8 ⟨b, hb⟩
  have key : fX11_isDigit (nI b) = 1 ↔ 48 ≤ b ∧ b ≤ 57 := by
    unfold fX11_isDigit
    by_cases z : b < 48
    · rw [if_pos (show nI b < 48 from nI_lt (b := 48) z (by decide))]
      exact ⟨fun q => absurd q (by decide), fun q => by omega⟩
    · rw [if_neg (show ¬ nI b < 48 from nI_nlt (b := 48) (by omega) (by omega))]
      by_cases z2 : 57 < b
      · rw [if_pos (show 57 < nI b from nI_lt (a := 57) z2 (by omega))]
        exact ⟨fun q => absurd q (by decide), fun q => by omega⟩
      · rw [if_neg (show ¬ 57 < nI b from nI_nlt (a := 57) (by omega) (by decide))]
        exact ⟨fun _ => by omega, fun _ => rfl⟩
  rw [key]
  unfold cp_dg
  rw [decide_eq_true_iff]
  by_cases z : b < 128
  · have h1 : (nI b).toInt8.toInt32 = nI b := h1 z
    rw [h1]
    exact ⟨fun q => ⟨nI_le (a := 48) q.1 (by omega), nI_le (b := 57) q.2 (by decide)⟩, fun q => ⟨(nI_leI (a := 48) (by decide) (by omega)).mp q.1, (nI_leI (b := 57) (by omega) (by decide)).mp q.2⟩⟩
  · have h2 : (nI b).toInt8.toInt32 < 0 := h2 (by show 128 ≤ b; omega)
    refine ⟨fun q => by omega, fun q => ?_⟩
    exfalso
    have q1 := q.1
    rw [Int32.le_iff_toInt_le] at q1
    rw [Int32.lt_iff_toInt_lt] at h2
    have e1 : (48 : Int32).toInt = 48 := by decide
    have e2 : (0 : Int32).toInt = 0 := by decide
    omega
theorem hT_in {g : Nat → Int32} {k a : Nat} (h : a < min k 76) : cp_hT 76 g k a = g a := if_pos (by omega)
theorem hT_out {g : Nat → Int32} {k a : Nat} (h : min k 76 ≤ a) : cp_hT 76 g k a = -1 := if_neg (by omega)
theorem stands_iff {μ : m2M} {g : Nat → Int32} {k a c : Nat} (tx : txC μ g) (h3 : μ.1 kH 3 = nI (min k 76)) (h4 : μ.1 kH 4 = nI a) (ha : a ≤ 76) (hc : c < 128) : fX2_stands (nI c) μ = 1 ↔ cp_hT 76 g k a = nI c := by
  unfold fX2_stands
  rw [h3, h4, nI_clamp (by omega)]
  by_cases z : min k 76 ≤ a
  · rw [if_pos (nI_le z (by omega)), hT_out z]
    exact ⟨fun q => absurd q (by decide), fun q => absurd q.symm (nI_ne_m1 (by omega))⟩
  · rw [if_neg (nI_ge (by omega) (by omega)), hT_in (by omega)]
    obtain ⟨b, hb, e1, e2⟩ := tx a (by omega)
    rw [e1, e2, ← tx_eq hb hc]
    by_cases z2 : nI b = nI c
    · rw [if_pos z2]; exact ⟨fun _ => z2, fun _ => rfl⟩
    · rw [if_neg z2]; exact ⟨fun q => absurd q (by decide), fun q => absurd q z2⟩
theorem st_in {μ : m2M} {k a : Nat} (h3 : μ.1 kH 3 = nI (min k 76)) (h4 : μ.1 kH 4 = nI a) (ha : a ≤ 76) : ¬ (μ.1 kH 3) ≤ (μ.1 kH 4) → vp_in (μ.1 kH 4) 80 := fun _ => by rw [h4]; exact vp_in_nI (by omega) (by decide)
def hS (μ : m2M) (v : Int32) (b : Nat) : m2M := m2_si (m2_si μ kH 5 v) kH 4 (nI b)
theorem hS_4 (μ : m2M) (v : Int32) (b : Nat) (x : Nat) : m2_si (hS μ v b) kH 4 (nI x) = hS μ v x := by
  unfold hS
  rw [m2_si_si]
theorem hS_54 (μ : m2M) (v v' : Int32) (b b' : Nat) : m2_si (m2_si (hS μ v b) kH 5 v') kH 4 (nI b') = hS μ v' b' := by
  unfold hS
  rw [si_swap _ _ (j := 4) (j' := 5) (by decide), m2_si_si, m2_si_si]
theorem hS_c (μ : m2M) (v : Int32) (b : Nat) {c : Nat} (h : c ≠ kH) : (hS μ v b).1 c = μ.1 c := by
  unfold hS
  rw [si_nc _ _ _ h, si_nc _ _ _ h]
theorem hS_j (μ : m2M) (v : Int32) (b : Nat) {j : Nat} (h4 : j ≠ 4) (h5 : j ≠ 5) : (hS μ v b).1 kH j = μ.1 kH j := by
  unfold hS
  rw [si_nj _ _ _ h4, si_nj _ _ _ h5]
theorem S_readNumber {D k a h : Nat} {g : Nat → Int32} (hD : 1 ≤ D) (μ : m2M) (tx : txC μ g) (h3 : μ.1 kH 3 = nI (min k 76)) (h4 : μ.1 kH 4 = nI a) (ha : a ≤ 76) (hh : h < 100) : m2_MT D yX2_readNumber cX2_readNumber 3 (some .boolean) [.ref kH, .int (nI h)] μ (fun r μ' => ((nmR (cp_hT 76 g k) (nI h) a).1 = true ∧ r = some (.int 1) ∧ μ' = hS μ (nmR (cp_hT 76 g k) (nI h) a).2.2 (nmR (cp_hT 76 g k) (nI h) a).2.1) ∨ ((nmR (cp_hT 76 g k) (nI h) a).1 = false ∧ r = some (.int 0) ∧ ∃ v, μ' = hS μ v (nmR (cp_hT 76 g k) (nI h) a).2.1)) := by
  obtain ⟨D, rfl⟩ : ∃ E, D = E + 1 := ⟨D - 1, by omega⟩
  refine m2_MT.intro (ls := [.ref kH, .int (nI h), .null]) (by decide +kernel) rfl (ble rfl) (fun κ hk => ?_)
  refine B_X2_readNumber_0 hk ?_
  have nmR_def : nmR (cp_hT 76 g k) (nI h) a = if (cp_nH (cp_hT 76 g k) 2 a 0).2 = a then (false, a, 0) else if (cp_nH (cp_hT 76 g k) 2 a 0).1 ≤ nI h then (true, (cp_nH (cp_hT 76 g k) 2 a 0).2, (cp_nH (cp_hT 76 g k) 2 a 0).1) else (false, (cp_nH (cp_hT 76 g k) 2 a 0).2 - 1, 0) := rfl
  generalize hN : nmR (cp_hT 76 g k) (nI h) a = NN at hk nmR_def
  generalize hR : cp_nH (cp_hT 76 g k) 2 a 0 = R at nmR_def
  -- the end
  have fin : ∀ (j b : Nat) (v : Int32), b = a + j → j ≤ 2 → R = (v, b) → (j = 0 → v = 0) → (((hS μ v b).1 kH 5 ≤ nI h → ((NN.1 = true ∧ some (Value.int (if nI j ≤ 0 then 0 else 1 : Int32)) = some (.int 1) ∧ hS μ v b = hS μ NN.2.2 NN.2.1) ∨ (NN.1 = false ∧ some (Value.int (if nI j ≤ 0 then 0 else 1 : Int32)) = some (.int 0) ∧ ∃ v', hS μ v b = hS μ v' NN.2.1))) ∧ (¬ (hS μ v b).1 kH 5 ≤ nI h → ((NN.1 = true ∧ some (Value.int 0) = some (Value.int 1) ∧ m2_si (hS μ v b) kH 4 ((hS μ v b).1 kH 4 - 1) = hS μ NN.2.2 NN.2.1) ∨ (NN.1 = false ∧ some (Value.int 0) = some (Value.int 0) ∧ ∃ v', m2_si (hS μ v b) kH 4 ((hS μ v b).1 kH 4 - 1) = hS μ v' NN.2.1)))) := by
    intro j b v hb hj hr hv0
    have e5 : (hS μ v b).1 kH 5 = v := rfl
    have e4 : (hS μ v b).1 kH 4 = nI b := rfl
    rw [e5, e4]
    rw [hr] at nmR_def
    simp only at nmR_def
    by_cases z : j = 0
    · have zb : b = a := by omega
      rw [if_pos zb] at nmR_def
      have v0 := hv0 z
      subst v0
      subst z
      refine ⟨fun _ => Or.inr ⟨by rw [nmR_def], rfl, 0, by rw [nmR_def, zb]⟩, fun w => absurd (nI_pos' (n := h) (by omega)) w⟩
    · have zb : ¬ b = a := by omega
      rw [if_neg zb] at nmR_def
      refine ⟨fun w => ?_, fun w => ?_⟩
      · rw [if_pos w] at nmR_def
        rw [if_neg (nI_nle (by omega) (by omega))]
        exact Or.inl ⟨by rw [nmR_def], rfl, by rw [nmR_def]⟩
      · rw [if_neg w] at nmR_def
        rw [pred_nI (by omega), hS_4]
        exact Or.inr ⟨by rw [nmR_def], rfl, v, by rw [nmR_def]⟩
  have key : ∀ (i b : Nat) (v : Int32), i ≤ 2 → b + i = a + 2 → b ≤ 76 → cp_nH (cp_hT 76 g k) i b v = R → (i = 2 → v = 0) → κ 7 [.ref kH, .int (nI h), .int (nI (2 - i))] [] (hS μ v b) := by
    intro i
    induction i with
    | zero =>
      intro b v _ hbi hb76 hr hv0
      have := fin 2 b v (by omega) (by omega) hr.symm (fun z => absurd z (by decide))
      exact B_X2_readNumber_7 hk (Nat.zero_le _) ⟨fun _ => this, fun w => absurd (by decide) w⟩
    | succ i ih =>
      intro b v hi hbi hb76 hr hv0
      have e3 : (hS μ v b).1 kH 3 = nI (min k 76) := h3
      have e4 : (hS μ v b).1 kH 4 = nI b := rfl
      have e5 : (hS μ v b).1 kH 5 = v := rfl
      have et : (hS μ v b).1 kC_text = μ.1 kC_text := hS_c _ _ _ (by decide)
      unfold cp_nH at hr
      refine B_X2_readNumber_7 hk (Nat.zero_le _) ⟨fun w => absurd w (nI_ge (b := 2) (by omega) (by decide)), fun _ => ?_⟩
      by_cases z : min k 76 ≤ b
      · have hdg : ¬ cp_dg (cp_hT 76 g k b) = true := by rw [hT_out z]; decide
        rw [if_neg hdg] at hr
        have := fin (2 - (i + 1)) b v (by omega) (by omega) hr.symm (fun w => hv0 (by omega))
        exact ⟨fun _ => this, fun w => absurd (by rw [e3, e4]; exact nI_le z (by omega)) w⟩
      · refine ⟨fun w => absurd (by rw [e3, e4] at w; exact w) (nI_ge (by omega) (by omega)), fun _ => ?_⟩
        obtain ⟨t, ht, et1, et2⟩ := tx b (by omega)
        rw [hT_in (by omega), et2] at hr
        have hdd := tx_dg ht
        rw [e4, e5, et, nI_clamp (by omega), et1]
        refine ⟨vp_in_nI (by omega) (by decide), fun w => ?_, fun w => ?_⟩
        · have hd := hdd.mp w
          rw [if_pos hd] at hr
          have hv8 : (nI t).toInt8.toInt32 = nI t := by
            refine (by8 ⟨t, ht⟩).1 ?_
            obtain ⟨x, hx, ex⟩ := dg_val hd
            have := (tx_eq ht (c := 48 + x) (by omega)).mpr ex
            have := (nI_eq (by omega) (by omega)).mp this
            show t < 128
            omega
          rw [hv8] at hr
          rw [nI_1, nI_1, hS_54, show 2 - (i + 1) + 1 = 2 - i by omega]
          refine ih (b + 1) _ (by omega) (by omega) (by omega) ?_ (fun z => by omega)
          rw [← hr, show v * 10 + (nI t - 48) = 10 * v + nI t - 48 from ?_]
          rw [Int32.mul_comm, Int32.sub_eq_add_neg, Int32.sub_eq_add_neg, Int32.add_assoc]
        · rw [if_neg (fun z => w (hdd.mpr z))] at hr
          have := fin (2 - (i + 1)) b v (by omega) (by omega) hr.symm (fun w => hv0 (by omega))
          rw [e4, e5] at this
          exact this
  have kk := key 2 a 0 (Nat.le_refl 2) rfl ha hR (fun _ => rfl)
  have e : hS μ 0 a = m2_si μ kH 5 0 := by
    unfold hS
    rw [m2_si_id]
    rw [si_nj _ _ _ (by decide)]
    exact h4
  rw [e] at kk
  exact kk
theorem S_takes {D k a c : Nat} {g : Nat → Int32} (hD : 1 ≤ D) (μ : m2M) (tx : txC μ g) (h3 : μ.1 kH 3 = nI (min k 76)) (h4 : μ.1 kH 4 = nI a) (ha : a ≤ 76) (hc : c < 128) : m2_MT D yX2_takes cX2_takes 2 (some .boolean) [.ref kH, .int (nI c)] μ (fun r μ' => (cp_hT 76 g k a = nI c ∧ r = some (.int 1) ∧ μ' = m2_si μ kH 4 (nI (a + 1))) ∨ (cp_hT 76 g k a ≠ nI c ∧ r = some (.int 0) ∧ μ' = μ)) := by
  obtain ⟨D, rfl⟩ : ∃ E, D = E + 1 := ⟨D - 1, by omega⟩
  refine m2_MT.intro (ls := [.ref kH, .int (nI c)]) (by decide +kernel) rfl (ble rfl) (fun κ hk => ?_)
  have hs := stands_iff (c := c) tx h3 h4 ha hc
  refine B_X2_takes_0 hk (Nat.zero_le _) ⟨st_in h3 h4 ha, fun w => Or.inl ⟨hs.mp w, rfl, ?_⟩, fun w => Or.inr ⟨fun z => w (hs.mpr z), rfl, rfl⟩⟩
  rw [h4, nI_1]
theorem hT_76 {g : Nat → Int32} {k a c : Nat} (h : cp_hT 76 g k a = nI c) (hc : c < 128) : a < 76 := by
  apply Classical.byContradiction
  intro z
  rw [hT_out (by omega)] at h
  exact nI_ne_m1 (by omega) h.symm
/-- only this DOOR, only this one of PEOPLE is written -/
def hN (n1 : Nat) (μ μ' : m2M) : Prop := fr (fun c => (c == kH) || (Nat.ble 9 c && Nat.ble c 14)) μ μ' ∧ (∀ c j, 9 ≤ c → c ≤ 14 → j ≠ n1 → μ'.1 c j = μ.1 c j) ∧ μ'.1 kH 3 = μ.1 kH 3 ∧ μ'.1 kH 7 = μ.1 kH 7
def hO1 (p1 : Nat) (μ μ' : m2M) : Prop := fr (fun c => (c == kH) || (Nat.ble 16 c && Nat.ble c 23)) μ μ' ∧ (∀ c j, 16 ≤ c → c ≤ 23 → j ≠ p1 → μ'.1 c j = μ.1 c j) ∧ μ'.1 kH 3 = μ.1 kH 3 ∧ μ'.1 kH 6 = μ.1 kH 6
theorem hN.rf {n1 : Nat} {μ : m2M} : hN n1 μ μ := ⟨fr.rf, fun _ _ _ _ _ => rfl, rfl, rfl⟩
theorem hO1.rf {n1 : Nat} {μ : m2M} : hO1 n1 μ μ := ⟨fr.rf, fun _ _ _ _ _ => rfl, rfl, rfl⟩
theorem hN.h {n1 : Nat} {μ μ' : m2M} {j : Nat} {x : Int32} (q : hN n1 μ μ') (h3 : j ≠ 3) (h7 : j ≠ 7) : hN n1 μ (m2_si μ' kH j x) := ⟨fr_si rfl q.1, fun c i h1 h2 hi => by rw [si_nc _ _ _ (by have : kH = 24 := rfl; omega)]; exact q.2.1 c i h1 h2 hi, by rw [si_nj _ _ _ (Ne.symm h3)]; exact q.2.2.1, by rw [si_nj _ _ _ (Ne.symm h7)]; exact q.2.2.2⟩
theorem hO1.h {n1 : Nat} {μ μ' : m2M} {j : Nat} {x : Int32} (q : hO1 n1 μ μ') (h3 : j ≠ 3) (h7 : j ≠ 6) : hO1 n1 μ (m2_si μ' kH j x) := ⟨fr_si rfl q.1, fun c i h1 h2 hi => by rw [si_nc _ _ _ (by have : kH = 24 := rfl; omega)]; exact q.2.1 c i h1 h2 hi, by rw [si_nj _ _ _ (Ne.symm h3)]; exact q.2.2.1, by rw [si_nj _ _ _ (Ne.symm h7)]; exact q.2.2.2⟩
theorem hN.d {n1 : Nat} {μ μ' : m2M} {c : Nat} {x : Int32} (q : hN n1 μ μ') (h : 9 ≤ c ∧ c ≤ 14) : hN n1 μ (m2_si μ' c n1 x) := by
  have e : kH = 24 := rfl
  refine ⟨fr_si (by simp only [Bool.or_eq_true, Bool.and_eq_true, Nat.ble_eq]; exact Or.inr h) q.1, fun c' i h1 h2 hi => ?_, by rw [si_nc _ _ _ (by omega)]; exact q.2.2.1, by rw [si_nc _ _ _ (by omega)]; exact q.2.2.2⟩
  by_cases z : c' = c
  · subst z; rw [si_nj _ _ _ hi]; exact q.2.1 c' i h1 h2 hi
  · rw [si_nc _ _ _ z]; exact q.2.1 c' i h1 h2 hi
theorem hO1.d {n1 : Nat} {μ μ' : m2M} {c : Nat} {x : Int32} (q : hO1 n1 μ μ') (h : 16 ≤ c ∧ c ≤ 23) : hO1 n1 μ (m2_si μ' c n1 x) := by
  have e : kH = 24 := rfl
  refine ⟨fr_si (by simp only [Bool.or_eq_true, Bool.and_eq_true, Nat.ble_eq]; exact Or.inr h) q.1, fun c' i h1 h2 hi => ?_, by rw [si_nc _ _ _ (by omega)]; exact q.2.2.1, by rw [si_nc _ _ _ (by omega)]; exact q.2.2.2⟩
  by_cases z : c' = c
  · subst z; rw [si_nj _ _ _ hi]; exact q.2.1 c' i h1 h2 hi
  · rw [si_nc _ _ _ z]; exact q.2.1 c' i h1 h2 hi
theorem hN.s {n1 : Nat} {μ μ' : m2M} {v : Int32} {b : Nat} (q : hN n1 μ μ') : hN n1 μ (hS μ' v b) := (q.h (by decide) (by decide)).h (by decide) (by decide)
theorem hO1.s {n1 : Nat} {μ μ' : m2M} {v : Int32} {b : Nat} (q : hO1 n1 μ μ') : hO1 n1 μ (hS μ' v b) := (q.h (by decide) (by decide)).h (by decide) (by decide)
theorem txC.of {μ μ' : m2M} {g : Nat → Int32} (h : txC μ g) (e : μ'.1 kC_text = μ.1 kC_text) : txC μ' g := fun i hi => by rw [e]; exact h i hi
theorem hN.tx {n1 : Nat} {μ μ' : m2M} {g : Nat → Int32} (q : hN n1 μ μ') (h : txC μ g) : txC μ' g := h.of (q.1 kC_text rfl).1
theorem hO1.tx {n1 : Nat} {μ μ' : m2M} {g : Nat → Int32} (q : hO1 n1 μ μ') (h : txC μ g) : txC μ' g := h.of (q.1 kC_text rfl).1
