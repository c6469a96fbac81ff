/-! price: readJoint, adopt -/
theorem rk_tx : ∀ b : Fin 256, rk (nI b.val) = rk (nI b.val).toInt8.toInt32 := by decide +kernel
theorem rk_id : ∀ b : Fin 256, rk (nI b.val) ≠ 0 → (nI b.val).toInt8.toInt32 = nI b.val := by decide +kernel
theorem h_256 {g : Nat → Int32} {k : Nat} {μ : m2M} (tx : txC μ g) (a : Nat) : cp_h g k a ≠ 256 := by
  show (if a < k ∧ a < 40 then g a else -1) ≠ 256
  by_cases z : a < k ∧ a < 40
  · rw [if_pos z]
    obtain ⟨b, hb, _, e⟩ := tx a (by omega)
    rw [e]
    have : ∀ b : Fin 256, (nI b.val).toInt8.toInt32 ≠ 256 := by decide +kernel
    exact this ⟨b, hb⟩
  · rw [if_neg z]; decide
/-- ) -/
theorem S_jC {D k a e b : Nat} {g : Nat → Int32} {o pd ws : List Int32} {cm : Nat → Bool} (hD : 2 ≤ D) (μ0 M : m2M) (hx : xS μ0 k a o (pd ++ 40 :: ws) (e + 1) cm false M) (ha : a < min k 40) (hb : b < 256) (e2 : cp_h g k a = (nI b).toInt8.toInt32) (h41 : cp_h g k a = 41) (hp : rkA 1 pd) : m2_MT D yX7_readJoint cX7_readJoint 3 (some .boolean) [.ref kE, .int (nI b)] M (fun r M' => r = some (.int 1) ∧ xS μ0 k (a + 1) (o ++ ngL pd) ws e cm false M') := by
  obtain ⟨D, rfl⟩ : ∃ E, D = E + 1 := ⟨D - 1, by omega⟩
  obtain ⟨hT, hW, h11, h12, hl, hle⟩ := hx
  have b41 : nI b = 41 := (tx_eq (c := 41) hb (by decide)).mpr (by rw [← e2]; exact h41)
  have he := hT.2.2.1
  refine m2_MT.intro (ls := [.ref kE, .int (nI b), .null]) (by decide +kernel) rfl (ble rfl) (fun κ hk => ?_)
  refine B_X7_readJoint_0 hk ⟨fun w => absurd b41 w, fun _ => ⟨fun _ => ⟨_, S_release (r := 1) (ws := 40 :: ws) (by omega) (by decide) (by decide) M hW (by omega) hp (show rk 40 < 1 by decide), fun μ59 h59 => ?_⟩, fun w => absurd (hT.2.1.symm.trans w) (nI_ne0 (by omega) (by omega))⟩⟩
  obtain ⟨x1, x2⟩ := h59
  have h7 : μ59.1 kE 7 = nI (ws.length + 1) := x1.2.2.1
  have hT2 := hT.em x2
  rw [h7, show (1 : Int32) = nI 1 from rfl, pk_sub (by omega), Nat.add_sub_cancel]
  rw [hT2.2.1, pk_sub (by omega), Nat.add_sub_cancel]
  rw [(x2.2 11 (by decide) (by decide)).trans h11, nI_add]
  refine ⟨rfl, ?_, ⟨?_, fun i c hi => ?_, ?_, ?_⟩, si_at _ _ _ _, ?_, ?_, by omega⟩
  · obtain ⟨⟨f1, f2, f3⟩, h9, _, hcm, h10⟩ := hT2
    refine ⟨⟨fr_si rfl (fr_si rfl (fr_si rfl f1)), ?_, ?_⟩, ?_, by omega, fun i hi => ?_, ?_⟩
    · rw [si_nj _ _ _ (by decide), si_nj _ _ _ (by decide), si_nj _ _ _ (by decide)]; exact f2
    · rw [si_nj _ _ _ (by decide), si_nj _ _ _ (by decide), si_nj _ _ _ (by decide)]; exact f3
    · rw [si_nj _ _ _ (by decide), si_at]
    · rw [si_nc _ _ _ (by decide), si_nc _ _ _ (by decide), si_nc _ _ _ (by decide)]; exact hcm i (by omega)
    · rw [si_nj _ _ _ (by decide), si_nj _ _ _ (by decide), si_nj _ _ _ (by decide)]; exact h10
  · rw [si_nj _ _ _ (by decide), si_nj _ _ _ (by decide), si_nj _ _ _ (by decide)]; exact x1.1
  · rw [si_nc _ _ _ (by decide), si_nc _ _ _ (by decide), si_nc _ _ _ (by decide)]; exact x1.2.1 i c hi
  · rw [si_nj _ _ _ (by decide), si_nj _ _ _ (by decide), si_at]
  · rw [si_nc _ _ _ (by decide), si_nc _ _ _ (by decide), si_nc _ _ _ (by decide)]; exact x1.2.2.2.2
  · rw [si_nj _ _ _ (by decide), si_nj _ _ _ (by decide), si_nj _ _ _ (by decide), x2.2 12 (by decide) (by decide)]; exact h12
  · have : (ngL pd).length = pd.length := by unfold ngL; simp
    simp only [List.length_append, List.length_cons] at hl ⊢
    omega
/-- a sign that joins -/
theorem S_jJ {D k a e b : Nat} {g : Nat → Int32} {o pd ws : List Int32} {cm : Nat → Bool} (hD : 2 ≤ D) (μ0 M : m2M) (hx : xS μ0 k a o (pd ++ ws) e cm false M) (ha : a < min k 40) (hb : b < 256) (e2 : cp_h g k a = (nI b).toInt8.toInt32) (hr : rk (cp_h g k a) = 1 ∨ rk (cp_h g k a) = 2 ∨ rk (cp_h g k a) = 3) (hc : rk (cp_h g k a) = 1 → cm e = false) (hp : rkA (rk (cp_h g k a)) pd) (hw : tLt (rk (cp_h g k a)) ws) : m2_MT D yX7_readJoint cX7_readJoint 3 (some .boolean) [.ref kE, .int (nI b)] M (fun r M' => r = some (.int 1) ∧ xS μ0 k (a + 1) (o ++ ngL pd) (cp_h g k a :: ws) e (if rk (cp_h g k a) = 1 then upB cm e true else cm) true M') := by
  obtain ⟨D, rfl⟩ : ∃ E, D = E + 1 := ⟨D - 1, by omega⟩
  obtain ⟨hT, hW, h11, h12, hl, hle⟩ := hx
  have hrb : rk (nI b) = rk (cp_h g k a) := by rw [e2]; exact rk_tx ⟨b, hb⟩
  have eb : nI b = cp_h g k a := by rw [e2]; exact (rk_id ⟨b, hb⟩ (by show rk (nI b) ≠ 0; omega)).symm
  have b41 : ¬ nI b = 41 := fun w => by
    have : rk (nI b) = 0 := by rw [w]; decide
    omega
  have he := hT.2.2.1
  -- behind the release
  have fin : ∀ (μ1 μ2 : m2M) (cm' : Nat → Bool), xT μ0 k e cm' μ1 → μ1.1 kE 11 = nI a → frEm μ1 μ2 → xW (o ++ ngL pd) ws μ2 → ∃ Q9 : Option Value → m2M → Prop, m2_MT D yX7_hold cX7_hold 2 none [.ref kE, .int (nI b)] μ2 Q9 ∧ ∀ μ3 : m2M, Q9 none μ3 → xS μ0 k (a + 1) (o ++ ngL pd) (cp_h g k a :: ws) e cm' true (m2_si (m2_si μ3 kE 12 1) kE 11 (μ3.1 kE 11 + 1)) := by
    intro μ1 μ2 cm' t1 t2 t3 t4
    have hlen : (ngL pd).length = pd.length := by unfold ngL; simp
    simp only [List.length_append] at hl
    refine ⟨_, S_hold (n := ws.length) (nI b) μ2 t4.2.2.1 (by omega), fun μ3 e3 => ?_⟩
    subst e3
    have t5 := t1.em t3
    rw [eb, si_nj _ _ _ (by decide), si_nc _ _ _ (by decide), (t3.2 11 (by decide) (by decide)).trans t2, nI_1]
    refine ⟨(((t5.siD (Or.inr rfl)).siE ⟨by decide, by decide, by decide, by decide⟩).siE ⟨by decide, by decide, by decide, by decide⟩).siE ⟨by decide, by decide, by decide, by decide⟩, ((t4.hold _).siE ⟨by decide, by decide⟩).siE ⟨by decide, by decide⟩, si_at _ _ _ _, ?_, ?_, by omega⟩
    · rw [si_nj _ _ _ (by decide), si_at]; rfl
    · simp only [List.length_append, List.length_cons]
      omega
  have hl40 : o.length + (pd ++ ws).length ≤ 40 := by omega
  refine m2_MT.intro (ls := [.ref kE, .int (nI b), .null]) (by decide +kernel) rfl (ble rfl) (fun κ hk => ?_)
  refine B_X7_readJoint_0 hk ⟨fun _ => ⟨_, S_rankOf (nI b) M, fun y2 μ3 h3 => ?_⟩, fun w => absurd w b41⟩
  obtain ⟨q1, q2⟩ := h3
  cases q1
  have q2 := q2.symm
  subst q2
  rw [hrb]
  refine ⟨fun w => absurd w (nI_ne0 (by omega) (by omega)), fun _ => ⟨fun w => ⟨fun _ => ?_, fun w2 => absurd w2 w⟩, fun w => ?_⟩⟩
  · have hn1 : rk (cp_h g k a) ≠ 1 := fun q => w (by rw [q]; rfl)
    refine ⟨_, S_release (by omega) (by omega) (by omega) M hW hl40 hp hw, fun μ12 h12' => ?_⟩
    obtain ⟨Q9, z1, z2⟩ := fin M μ12 cm hT h11 h12'.2 h12'.1
    refine ⟨Q9, z1, fun μ17 h17 => ⟨rfl, ?_⟩⟩
    rw [if_neg hn1]
    exact z2 μ17 h17
  · have hr1 : rk (cp_h g k a) = 1 := (nI_eq (b := 1) (by omega) (by decide)).mp w
    have c0 : M.1 kE_compared e = 0 := by rw [hT.2.2.2.1 e (Nat.le_refl e), hc hr1]; rfl
    rw [hT.2.1, nI_clamp (by omega), c0]
    refine ⟨vp_in_nI (by omega) (by decide), fun _ => ⟨fun w2 => absurd w w2, fun _ => ?_⟩, fun w2 => absurd rfl w2⟩
    have hT2 : xT μ0 k e (upB cm e true) (m2_si M kE_compared e (vp_nar .boolean 1)) := hT.cm (b := true) (Nat.le_refl e) rfl
    refine ⟨_, S_release (by omega) (by omega) (by omega) _ hW.siC hl40 hp hw, fun μ48 h48 => ?_⟩
    obtain ⟨Q9, z1, z2⟩ := fin _ μ48 (upB cm e true) hT2 (by rw [si_nc _ _ _ (by decide)]; exact h11) h48.2 h48.1
    refine ⟨Q9, z1, fun μ17 h17 => ⟨rfl, ?_⟩⟩
    rw [if_pos hr1]
    exact z2 μ17 h17
/-- one that can't stand there -/
theorem S_jX {D k a e b : Nat} {g : Nat → Int32} {o ws : List Int32} {cm : Nat → Bool} (hD : 2 ≤ D) (μ0 M : m2M) (hx : xS μ0 k a o ws e cm false M) (hb : b < 256) (e2 : cp_h g k a = (nI b).toInt8.toInt32) (hn : (cp_h g k a = 41 ∧ e = 0) ∨ (cp_h g k a ≠ 41 ∧ (rk (cp_h g k a) = 0 ∨ (rk (cp_h g k a) = 1 ∧ cm e = true)))) : m2_MT D yX7_readJoint cX7_readJoint 3 (some .boolean) [.ref kE, .int (nI b)] M (fun r M' => r = some (.int 0) ∧ M' = M) := by
  obtain ⟨D, rfl⟩ : ∃ E, D = E + 1 := ⟨D - 1, by omega⟩
  obtain ⟨hT, hW, h11, h12, hl, hle⟩ := hx
  have hrb : rk (nI b) = rk (cp_h g k a) := by rw [e2]; exact rk_tx ⟨b, hb⟩
  have he := hT.2.2.1
  have e41 : nI b = 41 ↔ cp_h g k a = 41 := by rw [e2]; exact tx_eq (c := 41) hb (by decide)
  refine m2_MT.intro (ls := [.ref kE, .int (nI b), .null]) (by decide +kernel) rfl (ble rfl) (fun κ hk => ?_)
  rcases hn with ⟨n1, n2⟩ | ⟨n1, n2⟩
  · refine B_X7_readJoint_0 hk ⟨fun w => absurd (e41.mpr n1) w, fun _ => ⟨fun w => absurd (by rw [hT.2.1, n2]; rfl) w, fun _ => ⟨rfl, rfl⟩⟩⟩
  · refine B_X7_readJoint_0 hk ⟨fun _ => ⟨_, S_rankOf (nI b) M, fun y2 μ3 h3 => ?_⟩, fun w => absurd (e41.mp w) n1⟩
    obtain ⟨q1, q2⟩ := h3
    cases q1
    have q2 := q2.symm
    subst q2
    rw [hrb]
    rcases n2 with n2 | ⟨n2, n3⟩
    · rw [n2]
      exact ⟨fun _ => ⟨rfl, rfl⟩, fun w => absurd rfl w⟩
    · rw [n2]
      refine ⟨fun w => absurd w (by decide), fun _ => ⟨fun w => absurd rfl w, fun _ => ?_⟩⟩
      have c1 : M.1 kE_compared e = 1 := by rw [hT.2.2.2.1 e (Nat.le_refl e), n3]; rfl
      rw [hT.2.1, nI_clamp (by omega), c1]
      exact ⟨vp_in_nI (by omega) (by decide), fun w => absurd w (by decide), fun _ => ⟨rfl, rfl⟩⟩
theorem ad_c (μ : m2M) (f : Nat → Int32) (j : Nat) (a x b : Int32) : m2_si (m2_si (m2_si (m2_sr μ kE_code f) kE 3 a) kE_code j x) kE 3 b = m2_si (m2_sr μ kE_code (upd f j x)) kE 3 b := by
  rw [m2_si_comm (m2_sr μ kE_code f) (c := kE) (c' := kE_code) (by decide), m2_si_si, m2_si_sr]
theorem S_adoptP {D : Nat} (μ : m2M) {o : List Int32} (hl : o.length ≤ 40) (h5 : μ.1 kE 5 = nI o.length) (hd : ∀ i c, o[i]? = some c → μ.1 kE_draft i = c) : m2_MT D yX7_adopt cX7_adopt 2 none [.ref kE] μ (fun _ μ' => ∃ f, μ' = m2_si (m2_si (m2_sr μ kE_code f) kE 3 (if (-6) ∈ o then 1 else 0)) kE 2 (nI o.length) ∧ ∀ i c, o[i]? = some c → f i = c) := by
  refine m2_MT.intro (ls := [.ref kE, .null]) (by decide +kernel) rfl (ble rfl) (fun κ hk => ?_)
  refine B_X7_adopt_0 hk ?_
  have q := dn (n := o.length) (G := fun i => ∀ f, (∀ j c, j < i → o[j]? = some c → f j = c) → κ 7 [.ref kE, .int (nI i)] [] (m2_si (m2_sr μ kE_code f) kE 3 (if (-6) ∈ o.take i then 1 else 0))) (fun f hf => ?_) (fun i hi ih f hf => ?_) (μ.1 kE_code) (fun j c hj => absurd hj (Nat.not_lt_zero j))
  · rw [m2_sr_id, List.take_zero, if_neg (by simp)] at q
    exact q
  · have e5 : (m2_si (m2_sr μ kE_code f) kE 3 (if (-6) ∈ o.take o.length then 1 else 0)).1 kE 5 = nI o.length := by rw [si_nj _ _ _ (by decide), m2_sr_ne _ _ (by decide)]; exact h5
    refine B_X7_adopt_7 hk ⟨fun _ => ⟨f, ?_, fun i c hi => hf i c (List.getElem?_eq_some_iff.mp hi).1 hi⟩, fun w => absurd (by rw [e5]; exact nI_le (Nat.le_refl _) (by omega)) w⟩
    rw [e5, List.take_length]
  · obtain ⟨c, ec⟩ : ∃ c, o[i]? = some c := ⟨o[i], List.getElem?_eq_getElem hi⟩
    have e5 : (m2_si (m2_sr μ kE_code f) kE 3 (if (-6) ∈ o.take i then 1 else 0)).1 kE 5 = nI o.length := by rw [si_nj _ _ _ (by decide), m2_sr_ne _ _ (by decide)]; exact h5
    have ed : (m2_si (m2_sr μ kE_code f) kE 3 (if (-6) ∈ o.take i then 1 else 0)).1 kE_draft i = c := by rw [si_nc _ _ _ (by decide), m2_sr_ne _ _ (by decide)]; exact hd i c ec
    refine B_X7_adopt_7 hk ⟨fun w => absurd (by rw [e5] at w; exact w) (nI_ge hi (by omega)), fun _ => ⟨vp_in_nI (by omega) (by decide), ?_⟩⟩
    rw [nI_clamp (by omega), ed, si_at, nI_1, ad_c]
    have e6 : ((if (-6) ∈ o.take i then 1 else 0 : Int32) ||| (if c = -6 then 1 else 0)) = if (-6) ∈ o.take (i + 1) then 1 else 0 := by
      have em : (-6 : Int32) ∈ o.take (i + 1) ↔ (-6) ∈ o.take i ∨ c = -6 := by
        rw [List.take_add_one, ec]
        simp
        exact ⟨fun w => w.imp id Eq.symm, fun w => w.imp id Eq.symm⟩
      by_cases z1 : (-6 : Int32) ∈ o.take i
      · by_cases z2 : c = -6
        · rw [if_pos z1, if_pos z2, if_pos (em.mpr (Or.inl z1))]; rfl
        · rw [if_pos z1, if_neg z2, if_pos (em.mpr (Or.inl z1))]; rfl
      · by_cases z2 : c = -6
        · rw [if_neg z1, if_pos z2, if_pos (em.mpr (Or.inr z2))]; rfl
        · rw [if_neg z1, if_neg z2, if_neg (fun w => (em.mp w).elim z1 z2)]; rfl
    rw [e6]
    refine ⟨by split; exact Or.inr rfl; exact Or.inl rfl, ih _ (fun j d hj hjd => ?_)⟩
    unfold upd
    by_cases z : j = i
    · rw [if_pos z]
      subst z
      rw [ec] at hjd
      exact Option.some.inj hjd
    · rw [if_neg z]
      exact hf j d (by omega) hjd
