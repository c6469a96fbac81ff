/-! many -/
def frK (μ μ' : m2M) : Prop := fr (fun c => Nat.ble 37 c && Nat.ble c 45) μ μ'
theorem frK.j {μ μ' : m2M} (h : frK μ μ') : jC μ μ' := by
  have key : ∀ c, (Nat.ble 37 c && Nat.ble c 45) = true → (∀ j, scr c j = true) ∧ Nat.ble c 64 = true := by
    intro c hc
    rw [Bool.and_eq_true, Nat.ble_eq, Nat.ble_eq] at hc
    rcases (show c = 37 ∨ c = 38 ∨ c = 39 ∨ c = 40 ∨ c = 41 ∨ c = 42 ∨ c = 43 ∨ c = 44 ∨ c = 45 by omega) with rfl | rfl | rfl | rfl | rfl | rfl | rfl | rfl | rfl <;> exact ⟨fun _ => rfl, rfl⟩
  refine ⟨⟨fun c j hs => ?_, fun j => by rw [(h kC_row rfl).2], fun j => by rw [(h kM_row rfl).2]⟩, fr.mo h (fun c hc => ?_)⟩
  · cases e : (Nat.ble 37 c && Nat.ble c 45) with
    | false => rw [(h c e).1]
    | true => rw [(key c e).1 j] at hs; cases hs
  · show (Nat.ble 37 c && Nat.ble c 45) = false
    cases e : (Nat.ble 37 c && Nat.ble c 45) with
    | false => rfl
    | true => have := (key c e).2; rw [show Nat.ble c 64 = false from hc] at this; cases this
theorem frN.k {μ μ' : m2M} (h : frN μ μ') : frK μ μ' := fr.mo h.1 (fun c hc => by
  cases e : isN c with
  | false => rfl
  | true =>
    unfold isN at e
    simp only [Bool.or_eq_true, beq_iff_eq] at e
    rcases e with ((rfl | rfl) | rfl) | rfl <;> cases hc)
theorem isGm_k {c : Nat} (h : isGm c = true) : (∀ j, scr c j = true) ∧ isM c = true := by
  unfold isGm at h
  simp only [Bool.or_eq_true, beq_iff_eq] at h
  rcases h with (rfl | rfl) | rfl <;> exact ⟨fun _ => rfl, rfl⟩
theorem frGm_ag {μ μ' : m2M} (h : fr isGm μ μ') : ag μ μ' := by
  refine ⟨fun c j hs => ?_, fun j => by rw [(h kC_row rfl).2], fun j => by rw [(h kM_row rfl).2]⟩
  cases e : isGm c with
  | false => rw [(h c e).1]
  | true => rw [(isGm_k e).1 j] at hs; cases hs
theorem frGm_m {μ μ' : m2M} (h : fr isGm μ μ') : frM μ μ' := fr.mo h (fun c hc => by
  cases e : isGm c with
  | false => rfl
  | true => rw [(isGm_k e).2] at hc; cases hc)
theorem frGm_v {ν μ μ' : m2M} (h : fr isGm μ μ') (q : vM ν μ) : vM ν μ' := q.tr (frGm_ag h).m
def dA (ν : m2M) (d : Nat) : Nat := (ν.1 kM_doorA d).toNatClampNeg
def dB (ν : m2M) (d : Nat) : Nat := (ν.1 kM_doorB d).toNatClampNeg
def dT (ν : m2M) (d : Nat) : Bool := decide (ν.1 kM_isOneWay d = 0)
def dL (ν : m2M) (d : Nat) : Nat := (ν.1 kM_left d).toNatClampNeg
theorem RLn.dr {ν μ : m2M} {n p d : Nat} (h : RLn ν μ n p) (hd : d < n) : ν.1 kM_doorA d = nI (dA ν d) ∧ dA ν d < 12 ∧ ν.1 kM_doorB d = nI (dB ν d) ∧ dB ν d < 12 ∧ dA ν d ≠ dB ν d ∧ ν.1 kM_isOneWay d = (if dT ν d = true then 0 else 1) ∧ ν.1 kM_left d = nI (dL ν d) ∧ dL ν d ≤ 60 := by
  obtain ⟨_, ⟨a, ha, ea⟩, ⟨b, hb, eb⟩, hne, ho, _, ⟨l, hl, el⟩, _⟩ := h.1.2.2.2 d hd
  unfold dA dB dT dL
  rw [ea, eb] at hne
  rw [ea, eb, el, nI_clamp (by omega), nI_clamp (by omega), nI_clamp (by omega)]
  refine ⟨rfl, ha, rfl, hb, fun e => hne (by rw [e]), ?_, rfl, by omega⟩
  rcases ho with e | e
  · rw [e, if_pos (by decide)]
  · rw [e, if_neg (by decide)]
theorem S_load {D n p : Nat} (hD : 1 ≤ D) (ν μ : m2M) (h : RLn ν μ n p) : m2_MT D yX1_load cX1_load 3 none [.ref kF, .ref kD] μ (fun _ μ' => frK μ μ' ∧ fwA μ' n (dA ν) (dB ν) (dT ν) (dL ν) ∧ μ'.1 kF 6 = nI n ∧ ∀ d, d < n → μ'.1 kF_net d = 0) := by
  obtain ⟨D, rfl⟩ : ∃ E, D = E + 1 := ⟨D - 1, by omega⟩
  have hn := h.n20
  refine m2_MT.intro (ls := [.ref kF, .ref kD, .null]) (by decide +kernel) rfl (ble rfl) (fun κ hk => ?_)
  refine B_X1_load_0 hk ?_
  rw [h.1.1]
  refine dn (n := n) (G := fun i => ∀ M, frK μ M → M.1 kF 6 = nI n → M.1 kF 7 = nI n → (∀ d, d < i → M.1 kF_a d = μ.1 kD_a d ∧ M.1 kF_b d = μ.1 kD_b d ∧ M.1 kF_oneWay d = μ.1 kD_oneWay d ∧ M.1 kF_lets d = μ.1 kD_left d) → κ 18 [.ref kF, .ref kD, .int (nI i)] [] M) (fun M hM h6 h7 hx => ?_) (fun i hi ih M hM h6 h7 hx => ?_) _ (fr_si rfl (fr_si rfl fr.rf)) (by rw [si_nj _ _ _ (by decide), si_at]) (si_at _ _ _ _) (fun d hd => absurd hd (Nat.not_lt_zero d))
  · refine B_X1_load_18 hk ⟨fun _ => ⟨_, S_fill sh_kF_net (by decide) 0 M, fun μ4 h4 => ?_⟩, fun w => absurd (by rw [h7]; exact nI_le (Nat.le_refl _) (by omega)) w⟩
    rw [h4]
    refine ⟨fr_sr rfl hM, ⟨h7, by omega, fun d hd => ?_⟩, h6, fun d hd => by rw [m2_sr_same]; exact if_pos (by omega)⟩
    rw [m2_sr_ne _ _ (by decide : kF_a ≠ kF_net), m2_sr_ne _ _ (by decide : kF_b ≠ kF_net), m2_sr_ne _ _ (by decide : kF_oneWay ≠ kF_net), m2_sr_ne _ _ (by decide : kF_lets ≠ kF_net)]
    obtain ⟨x1, x2, x3, x4⟩ := hx d hd
    obtain ⟨y1, y2, y3, _, y5, _⟩ := (h.1.2.2.2 d hd).1
    obtain ⟨z1, z2, z3, z4, z5, z6, z7, z8⟩ := h.dr hd
    exact ⟨by rw [x1, y1, z1], z2, by rw [x2, y2, z3], z4, z5, by rw [x3, y3, z6], by rw [x4, y5, z7], by omega⟩
  · refine B_X1_load_18 hk ⟨fun w => absurd (by rw [h7] at w; exact w) (nI_ge hi (by omega)), fun _ => ⟨vp_in_nI (by omega) (by decide), vp_in_nI (by omega) (by decide), ?_⟩⟩
    rw [nI_clamp (by omega), nI_1]
    have hb1 : b01 (μ.1 kD_oneWay i) := by
      obtain ⟨q, _, _, _, ho, _⟩ := h.1.2.2.2 i hi
      rw [q.2.2.1]
      exact ho
    rw [(hM kD_a rfl).1, (hM kD_b rfl).1, (hM kD_oneWay rfl).1, (hM kD_left rfl).1, nar_b hb1]
    refine ih _ (fr_si rfl (fr_si rfl (fr_si rfl (fr_si rfl hM)))) ?_ ?_ (fun d hd => ?_)
    · exact h6
    · exact h7
    · by_cases e : d = i
      · subst e
        refine ⟨?_, ?_, ?_, si_at _ _ _ _⟩
        · rw [si_nc _ _ _ (by decide), si_nc _ _ _ (by decide), si_nc _ _ _ (by decide), si_at]
        · rw [si_nc _ _ _ (by decide), si_nc _ _ _ (by decide), si_at]
        · rw [si_nc _ _ _ (by decide), si_at]
      · obtain ⟨x1, x2, x3, x4⟩ := hx d (by omega)
        refine ⟨?_, ?_, ?_, ?_⟩
        · rw [si_nc _ _ _ (by decide), si_nc _ _ _ (by decide), si_nc _ _ _ (by decide), si_nj _ _ _ e]; exact x1
        · rw [si_nc _ _ _ (by decide), si_nc _ _ _ (by decide), si_nj _ _ _ e]; exact x2
        · rw [si_nc _ _ _ (by decide), si_nj _ _ _ e]; exact x3
        · rw [si_nj _ _ _ e]; exact x4
theorem nI_le0 {a : Nat} (h : a < 2 ^ 31) : nI a ≤ 0 ↔ a = 0 := by
  constructor
  · intro w
    apply Classical.byContradiction
    intro z
    exact nI_ge (a := 0) (b := a) (by omega) h w
  · intro w
    rw [w]
    exact Int32.le_refl _
theorem ob_0 {f : Nat → Bool} {i : Nat} (h : f i = false) : bts f i ||| ((if (0 : Int32) = 0 then 0 else 1 : Int32) <<< (nI i &&& 31)) = bts f (i + 1) := by
  have := bts_s1 (c := True) (f := f) (i := i) (by rw [h]; simp)
  rw [if_pos trivial] at this
  rw [if_pos rfl, Int32.zero_shiftLeft]
  exact this
theorem ob_1 {f : Nat → Bool} {i : Nat} (h : f i = true) : bts f i ||| ((if (1 : Int32) = 0 then 0 else 1 : Int32) <<< (nI i &&& 31)) = bts f (i + 1) := by
  have := bts_s1 (c := False) (f := f) (i := i) (by rw [h]; simp)
  rw [if_neg (fun e => e)] at this
  rw [if_neg (by decide)]
  exact this
def ouB (A B : Nat → Nat) (T : Nat → Bool) (L : Nat → Nat) (R : Nat → Bool) (d : Nat) : Bool := decide (0 < L d) && ((R (A d) && !R (B d)) || (T d && (R (B d) && !R (A d))))
theorem S_out {D m : Nat} {A B : Nat → Nat} {T : Nat → Bool} {L : Nat → Nat} {R : Nat → Bool} (hD : 1 ≤ D) (μ : m2M) (h : fwA μ m A B T L) (hR : μ.1 kF 10 = bts R 12) : m2_MT D yX1_doorsOutOfReached cX1_doorsOutOfReached 5 (some .int) [.ref kF] μ (fun r μ' => r = some (.int (bts (ouB A B T L R) m)) ∧ μ' = μ) := by
  obtain ⟨D, rfl⟩ : ∃ E, D = E + 1 := ⟨D - 1, by omega⟩
  have hm := h.2.1
  refine m2_MT.intro (ls := [.ref kF, .null, .null, .null, .null]) (by decide +kernel) rfl (ble rfl) (fun κ hk => ?_)
  refine B_X1_doorsOutOfReached_0 hk ?_
  refine dn (n := m) (G := fun i => κ 4 [.ref kF, .int (bts (ouB A B T L R) i), .int (nI i), .null, .null] [] μ) ?_ (fun i hi ih => ?_)
  · exact B_X1_doorsOutOfReached_4 hk (Nat.zero_le _) ⟨fun _ => ⟨rfl, rfl⟩, fun w => absurd (by rw [h.1]; exact nI_le (Nat.le_refl _) (by omega)) w⟩
  · obtain ⟨a1, a2, a3, a4, a5, a6, a7, a8⟩ := h.2.2 i hi
    have n0 : ouB A B T L R i = false → κ 4 [.ref kF, .int (bts (ouB A B T L R) i ||| ((if (0 : Int32) = 0 then 0 else 1 : Int32) <<< (nI i &&& 31))), .int (nI i + 1), .null, .null] [] μ := by
      intro e
      rw [ob_0 e, nI_1]
      exact ih
    have n1 : ouB A B T L R i = true → κ 4 [.ref kF, .int (bts (ouB A B T L R) i ||| ((if (1 : Int32) = 0 then 0 else 1 : Int32) <<< (nI i &&& 31))), .int (nI i + 1), .null, .null] [] μ := by
      intro e
      rw [ob_1 e, nI_1]
      exact ih
    have eo : μ.1 kF_oneWay i = 0 ↔ T i = true := by
      rw [a6]
      cases T i <;> simp
    have ha := hasB12 (g := R) a2
    have hb := hasB12 (g := R) a4
    have el := nI_le0 (a := L i) (by omega)
    have k95 : ∀ v : Int32, (¬ v = 0 ↔ ((R (A i) && !R (B i)) || (T i && (R (B i) && !R (A i)))) = true) → κ 95 [.ref kF, .int (bts (ouB A B T L R) i), .int (nI i), .int v, .null] [] μ := by
      intro v hv
      refine B_X1_doorsOutOfReached_95 hk (Nat.zero_le _) ⟨vp_in_nI (by omega) (by decide), ?_⟩
      rw [nI_clamp (by omega), a7]
      refine ⟨fun w => n0 ?_, fun w => ⟨fun w2 => n1 ?_, fun w2 => n0 ?_⟩⟩
      · unfold ouB; rw [decide_eq_false (by have := el.mp w; omega)]; rfl
      · unfold ouB; rw [decide_eq_true (Nat.pos_of_ne_zero (fun e => w (el.mpr e))), hv.mp w2]; rfl
      · unfold ouB
        cases e : ((R (A i) && !R (B i)) || (T i && (R (B i) && !R (A i)))) with
        | false => rw [Bool.and_false]
        | true => exact absurd w2 (hv.mpr e)
    have k48 : (R (A i) && !R (B i)) = false → κ 48 [.ref kF, .int (bts (ouB A B T L R) i), .int (nI i), .null, .null] [] μ := by
      intro e0
      refine B_X1_doorsOutOfReached_48 hk (Nat.zero_le _) ⟨vp_in_nI (by omega) (by decide), ?_⟩
      rw [nI_clamp (by omega), a7, a1, a3, hR, eo, ha, hb, el]
      refine ⟨fun w => k95 0 ?_, fun w => ⟨fun w2 => ⟨fun w3 => k95 0 ?_, fun w3 => ⟨fun w4 => n0 ?_, fun w4 => n1 ?_⟩⟩, fun w2 => k95 0 ?_⟩⟩
      · rw [e0]; simp [w]
      · rw [e0]; simp [w3]
      · unfold ouB; rw [w4]; rfl
      · unfold ouB; rw [decide_eq_true (by omega), e0, w, w2, (Bool.not_eq_true _).mp w3]; rfl
      · rw [e0]; simp [w2]
    refine B_X1_doorsOutOfReached_4 hk (Nat.zero_le _) ⟨fun w => absurd (by rw [h.1] at w; exact w) (nI_ge hi (by omega)), fun _ => ⟨vp_in_nI (by omega) (by decide), ?_⟩⟩
    rw [nI_clamp (by omega), a7, a1, a3, hR, eo, ha, hb, el]
    refine ⟨fun w => ⟨fun w2 => k48 (by rw [w2]; simp), fun w2 => ⟨fun w3 => k95 1 ?_, fun w3 => ⟨fun w4 => absurd w4 w2, fun _ => k95 1 ?_⟩⟩⟩, fun w => k48 (by rw [(Bool.not_eq_true _).mp w]; rfl)⟩
    · simp [w, w2]
    · simp [w, w2]
noncomputable def mV (dc : (Nat → Bool) → Nat) (frm to : Nat) : Nat := Classical.epsilon (fun V => ∃ R, mcP dc frm to V R)
noncomputable def mR (dc : (Nat → Bool) → Nat) (frm to : Nat) : Nat → Bool := Classical.epsilon (fun R => mcP dc frm to (mV dc frm to) R)
theorem mcP_eq {dc : (Nat → Bool) → Nat} {frm to V : Nat} {R : Nat → Bool} (h : mcP dc frm to V R) : V = mV dc frm to ∧ ∀ r, R r = mR dc frm to r := by
  have e : ∃ R, mcP dc frm to (mV dc frm to) R := Classical.epsilon_spec (p := fun V => ∃ R, mcP dc frm to V R) ⟨V, R, h⟩
  have e2 : mcP dc frm to (mV dc frm to) (mR dc frm to) := Classical.epsilon_spec (p := fun R => mcP dc frm to (mV dc frm to) R) e
  exact mcP_V h e2 (fun _ => rfl)
