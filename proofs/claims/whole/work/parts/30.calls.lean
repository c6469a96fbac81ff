/-! loops, the ROW -/
theorem ble {a b : Nat} (h : Nat.ble a b = true) : a ≤ b := Nat.le_of_ble_eq_true h
theorem dn {n : Nat} {G : Nat → Prop} (stop : G n) (step : ∀ i, i < n → G (i + 1) → G i) : G 0 := by
  have : ∀ k i, i + k = n → G i := by
    intro k
    induction k with
    | zero => intro i hi; have : i = n := by omega
              rw [this]; exact stop
    | succ k ih => intro i hi; exact step i (by omega) (ih (i + 1) (by omega))
  exact this n 0 (by omega)
def lst (l : List Int64) (i : Nat) : Int64 := (l[i]?).getD 0
def tlM (ν : m2M) (l : List Int64) : m2M := m2_si (m2_sl ν kM_row (lst l)) kM 21 (nI l.length)
def rC (l : List Int64) (μ : m2M) : Prop := μ.1 kC 3 = nI l.length ∧ ∀ i, i < l.length → μ.2 kC_row i = lst l i
def rM (l : List Int64) (μ : m2M) : Prop := μ.1 kM 21 = nI l.length ∧ ∀ i, i < l.length → μ.2 kM_row i = lst l i
def twC (μ μ' : m2M) : Prop := ∃ g z, μ' = m2_si (m2_sl μ kC_row g) kC 3 z
def twM (μ μ' : m2M) : Prop := ∃ g z, μ' = m2_si (m2_sl μ kM_row g) kM 21 z
theorem m2_sl_si (μ : m2M) (c c' j : Nat) (g : Nat → Int64) (x : Int32) : m2_sl (m2_si μ c j x) c' g = m2_si (m2_sl μ c' g) c j x := rfl
theorem twC.tr {μ ν ρ : m2M} (h1 : twC μ ν) (h2 : twC ν ρ) : twC μ ρ := by
  obtain ⟨g, z, rfl⟩ := h1
  obtain ⟨g', z', rfl⟩ := h2
  exact ⟨g', z', by rw [m2_sl_si, m2_si_si, m2_sl_sl]⟩
theorem twM.tr {μ ν ρ : m2M} (h1 : twM μ ν) (h2 : twM ν ρ) : twM μ ρ := by
  obtain ⟨g, z, rfl⟩ := h1
  obtain ⟨g', z', rfl⟩ := h2
  exact ⟨g', z', by rw [m2_sl_si, m2_si_si, m2_sl_sl]⟩
theorem twC.i {μ : m2M} {z : Int32} : twC μ (m2_si μ kC 3 z) := ⟨μ.2 kC_row, z, by rw [m2_sl_id]⟩
theorem twM.i {μ : m2M} {z : Int32} : twM μ (m2_si μ kM 21 z) := ⟨μ.2 kM_row, z, by rw [m2_sl_id]⟩
theorem rC.i {μ : m2M} : rC [] (m2_si μ kC 3 0) := ⟨rfl, fun i hi => absurd hi (Nat.not_lt_zero i)⟩
theorem rM.i {μ : m2M} : rM [] (m2_si μ kM 21 0) := ⟨rfl, fun i hi => absurd hi (Nat.not_lt_zero i)⟩
theorem lst_app (l : List Int64) (x : Int64) (f : Nat → Int64) (h : ∀ i, i < l.length → f i = lst l i) : ∀ i, i < (l ++ [x]).length → vp_updL f l.length x i = lst (l ++ [x]) i := by
  intro i hi
  unfold vp_updL lst
  by_cases e : i = l.length
  · rw [if_pos e, e]
    simp
  · rw [if_neg e]
    have hi2 : i < l.length := by simp at hi; omega
    rw [h i hi2, List.getElem?_append_left hi2]
    rfl
theorem S_tellC {D : Nat} (x : Int64) (μ : m2M) {l : List Int64} (h : rC l μ) (hl : l.length < 16) : m2_MT D yX11_tell cX11_tell 3 none [.ref kC, .long x] μ (fun _ μ' => rC (l ++ [x]) μ' ∧ twC μ μ') := by
  refine m2_MT.intro (ls := [.ref kC, .long x, .null]) (by decide +kernel) rfl (Nat.le_of_ble_eq_true rfl) (fun κ hk => ?_)
  refine B_X11_tell_0 hk ?_
  rw [h.1]
  refine ⟨fun q => absurd q (nI_ge (a := l.length) (b := 16) hl (by decide)), fun _ => ⟨vp_in_nI hl (by decide), ?_⟩⟩
  rw [nI_clamp (by omega)]
  refine ⟨⟨?_, fun i hi => ?_⟩, _, _, rfl⟩
  · have : nI l.length + 1 = nI (l ++ [x]).length := by rw [nI_1]; simp
    exact this
  · exact lst_app l x _ h.2 i hi
theorem S_tellM {D : Nat} (x : Int64) (μ : m2M) {l : List Int64} (h : rM l μ) (hl : l.length < 16) : m2_MT D yX12_tell cX12_tell 3 none [.ref kM, .long x] μ (fun _ μ' => rM (l ++ [x]) μ' ∧ twM μ μ') := by
  refine m2_MT.intro (ls := [.ref kM, .long x, .null]) (by decide +kernel) rfl (Nat.le_of_ble_eq_true rfl) (fun κ hk => ?_)
  refine B_X12_tell_0 hk ?_
  rw [h.1]
  refine ⟨vp_in_nI (by omega) (by decide), ?_⟩
  rw [nI_clamp (by omega)]
  refine ⟨⟨?_, fun i hi => ?_⟩, _, _, rfl⟩
  · have : nI l.length + 1 = nI (l ++ [x]).length := by rw [nI_1]; simp
    exact this
  · exact lst_app l x _ h.2 i hi
theorem twC.fr {S : Nat → Bool} {μ ν ρ : m2M} (h : twC ν ρ) (h0 : S kC = true) (h1 : S kC_row = true) (q : fr S μ ν) : fr S μ ρ := by
  obtain ⟨g, z, rfl⟩ := h
  exact fr_si h0 (fr_sl h1 q)
theorem twM.fr {S : Nat → Bool} {μ ν ρ : m2M} (h : twM ν ρ) (h0 : S kM = true) (h1 : S kM_row = true) (q : fr S μ ν) : fr S μ ρ := by
  obtain ⟨g, z, rfl⟩ := h
  exact fr_si h0 (fr_sl h1 q)
/-- the class has told a ROW -/
theorem REL2.tell {ν μ μ' : m2M} {l : List Int64} (q : REL2 ν μ) (h : rC l μ') (ht : twC μ μ') (hl : l.length ≤ 16) : REL2 (tlM ν l) μ' := by
  obtain ⟨g, z, rfl⟩ := ht
  obtain ⟨n, p, h1, h2, h3, h4, h5, h6, h7, h8, h9⟩ := q
  exact ⟨n, p, h1, h2, h3, ⟨l.length, hl, h.1, rfl, fun i hi => h.2 i hi⟩, h5, r_K_c (Or.inl (by decide)) (r_K_m rfl h6), h7, h8, h9⟩
theorem vM.tell {ν μ μ' : m2M} {l : List Int64} (q : vM ν μ) (h : rM l μ') (ht : twM μ μ') (hl : l.length ≤ 16) : vM (tlM ν l) μ' := by
  obtain ⟨g, z, rfl⟩ := ht
  refine ⟨fun c j h1 h2 => ?_, fun r j a b hj => ?_⟩
  · by_cases e : c = kM
    · subst e
      by_cases e2 : j = 21
      · subst e2; exact h.1
      · have e3 : ∀ (ρ : m2M) (y : Int32), (m2_si ρ kM 21 y).1 kM j = ρ.1 kM j := fun ρ y => if_neg e2
        unfold tlM
        rw [e3, e3]
        exact q.1 kM j rfl h2
    · have e3 : ∀ (ρ : m2M) (y : Int32), (m2_si ρ kM 21 y).1 c = ρ.1 c := fun ρ y => m2_sr_ne ρ _ e
      unfold tlM
      rw [e3, e3]
      exact q.1 c j h1 h2
  · have a : nI l.length = nI r := a
    have := (nI_eq (by omega) (by omega)).mp a
    exact h.2 j (by omega)
theorem vM.thr {ν μ : m2M} (q : vM ν μ) : vM ν (m2_si μ kM 22 0) := q.tr ag_thrown.m
theorem vM_si {ν μ : m2M} {c j : Nat} {x : Int32} (hc : scr c j = true) (q : vM ν μ) : vM ν (m2_si μ c j x) := q.tr (ag_si hc).m
/-- both sides tell nothing and change nothing -/
theorem vM.D {ν μ : m2M} (q : vM ν μ) (c j : Nat) (h1 : isM c = true) (h2 : scr c j = false) : μ.1 c j = ν.1 c j := q.1 c j h1 h2
theorem vM.si {ν μ : m2M} {c j : Nat} {x : Int32} (q : vM ν μ) (h : (c == kM && j == 21) = false) : vM (m2_si ν c j x) (m2_si μ c j x) := by
  refine ⟨fun c' j' a b => ?_, fun r j' a b hj => ?_⟩
  · unfold m2_si
    by_cases e : c' = c
    · subst e
      rw [m2_sr_same, m2_sr_same]
      unfold upd
      by_cases e2 : j' = j
      · rw [if_pos e2, if_pos e2]
      · rw [if_neg e2, if_neg e2]
        exact q.1 c' j' a b
    · rw [m2_sr_ne _ _ e, m2_sr_ne _ _ e]
      exact q.1 c' j' a b
  · refine q.2 r j' ?_ b hj
    rw [← a]
    unfold m2_si
    by_cases e : kM = c
    · subst e
      rw [m2_sr_same]
      unfold upd
      have : 21 ≠ j := by
        intro e
        subst e
        cases h
      rw [if_neg this]
    · rw [m2_sr_ne _ _ e]
theorem vM.sr {ν μ : m2M} {c : Nat} {f g : Nat → Int32} (q : vM ν μ) (h : c ≠ kM) (hf : ∀ j, scr c j = false → g j = f j) : vM (m2_sr ν c f) (m2_sr μ c g) := by
  refine ⟨fun c' j' a b => ?_, fun r j' a b hj => ?_⟩
  · by_cases e : c' = c
    · subst e
      rw [m2_sr_same, m2_sr_same]
      exact hf j' b
    · rw [m2_sr_ne _ _ e, m2_sr_ne _ _ e]
      exact q.1 c' j' a b
  · refine q.2 r j' ?_ b hj
    rw [← a, m2_sr_ne _ _ (Ne.symm h)]
/-- says -/
theorem T_says {D : Nat} (hD : 2 ≤ D) (x y z : Int32) (μ : m2M) (h : REL μ) : stp D yX11_says cX11_says 5 (some .int) yX12_says cX12_says 4 (some .int) [.int x, .int y, .int z] μ REL := by
  obtain ⟨D, rfl⟩ : ∃ E, D = E + 1 := ⟨D - 1, by omega⟩
  obtain ⟨n, p, h1, h2, h3, h4, h5, h6, h7, h8, h9⟩ := id h
  obtain ⟨s, s1, s2, s3, s4⟩ := id h5
  obtain ⟨d1, d2, d3, d4⟩ := id h1
  have hh : ∀ ν : m2M, vM μ ν → ν.1 kM 64 = nI s ∧ ν.1 kM 0 = nI n := fun ν q => ⟨(q.1 kM 64 rfl rfl).trans s3, (q.1 kM 0 rfl rfl).trans d2⟩
  by_cases ok : in_ 4 x ∧ in_ n y ∧ in_ 61 z ∧ s < 20
  · obtain ⟨ox, oy, oz, os⟩ := ok
    refine T_of (some (.int (nI (s + 1)))) (m2_si (m2_si (m2_si (m2_si μ kM_saysWho s x) kM_saysDoor s y) kM_saysNumber s z) kM 64 (nI (s + 1))) ?_ (fun ν hv => ?_)
    · refine m2_MT.intro (ls := [.ref kC, .int x, .int y, .int z, .null]) (by decide +kernel) rfl (Nat.le_of_ble_eq_true rfl) (fun κ hk => ?_)
      obtain ⟨x', hx', rfl⟩ := id ox
      obtain ⟨z', hz', rfl⟩ := id oz
      refine B_X11_says_0 hk (Nat.zero_le _) ⟨fun q => absurd q (nI_pos (by omega)), fun _ => ⟨fun q => absurd q (nI_ge (b := 4) hx' (by decide)), fun _ => ⟨fun _ => ⟨fun q => absurd q (nI_pos (by omega)), fun _ => ⟨fun q => absurd q (nI_nlt (a := 60) (by omega) (by decide)), fun _ => ?_⟩⟩, fun q => absurd ((fX0_has_iff d1 d3).mpr oy) q⟩⟩⟩
      rw [s2]
      refine ⟨fun _ => ⟨vp_in_nI os (by decide), ?_⟩, fun q => absurd (nI_lt (b := 20) os (by decide)) q⟩
      rw [nI_clamp (by omega), nI_1]
      refine ⟨rfl, ⟨n, p, h1, h2, h3, h4, ⟨s + 1, by omega, rfl, rfl, fun i hi => ?_⟩, r_K_c (Or.inl (by decide)) (r_K_c (Or.inl (by decide)) (r_K_c (Or.inl (by decide)) (r_K_c (Or.inl (by decide)) (r_K_m rfl (r_K_m rfl (r_K_m rfl (r_K_m rfl h6))))))), h7, h8, h9⟩, fr_si rfl (fr_si rfl (fr_si rfl (fr_si rfl fr.rf)))⟩
      show upd _ s _ i = upd _ s _ i ∧ upd _ s _ i = upd _ s _ i ∧ upd _ s _ i = upd _ s _ i ∧ in_ 4 (upd _ s _ i) ∧ in_ n (upd _ s _ i) ∧ in_ 61 (upd _ s _ i)
      unfold upd
      by_cases e : i = s
      · simp only [if_pos e]
        exact ⟨trivial, trivial, trivial, ox, oy, oz⟩
      · simp only [if_neg e]
        exact s4 i (by omega)
    · obtain ⟨v1, v2⟩ := hh ν hv
      refine m2_MT.intro (ls := [.ref kM, .int x, .int y, .int z]) (by decide +kernel) rfl (Nat.le_of_ble_eq_true rfl) (fun κ hk => ?_)
      refine B_X12_says_0 hk (by omega) ⟨fun _ => ⟨fun _ => ⟨fun _ => ⟨fun _ => ?_, fun q => ?_⟩, fun q => absurd ((in_k (k := 60) (by decide)).mpr oz) q⟩, fun q => absurd ((fX12_isDoor_iff (μ := m2_si ν kM 22 0) v2 d3).mpr oy) q⟩, fun q => absurd ((in_k (k := 3) (by decide)).mpr ox) q⟩
      · rw [v1, nI_clamp (by omega), nI_1]
        exact ⟨vp_in_nI os (by decide), rfl, (((hv.thr.si rfl).si rfl).si rfl).si rfl, fr_si rfl (fr_si rfl (fr_si rfl (fr_si rfl (fr_si rfl fr.rf))))⟩
      · rw [v1] at q
        exact absurd ((nI_eq (b := 20) (by omega) (by decide)).mp q) (by omega)
  · refine T_of (some (.int (-1))) μ ?_ (fun ν hv => ?_)
    · refine m2_MT.intro (ls := [.ref kC, .int x, .int y, .int z, .null]) (by decide +kernel) rfl (Nat.le_of_ble_eq_true rfl) (fun κ hk => ?_)
      refine B_X11_says_0 hk (Nat.zero_le _) ⟨fun _ => ⟨rfl, h, fr.rf⟩, fun q0 => ⟨fun _ => ⟨rfl, h, fr.rf⟩, fun q1 => ⟨fun q2 => ⟨fun _ => ⟨rfl, h, fr.rf⟩, fun q3 => ⟨fun _ => ⟨rfl, h, fr.rf⟩, fun q4 => ⟨fun q5 => ?_, fun _ => ⟨rfl, h, fr.rf⟩⟩⟩⟩, fun _ => ⟨rfl, h, fr.rf⟩⟩⟩⟩
      rw [s2] at q5
      exact absurd ⟨i32_in (k := 4) (by decide) q0 (Int32.not_le.mp q1), (fX0_has_iff d1 d3).mp q2, i32_in (k := 61) (by decide) q3 ((i32_lt_succ (k := 60) (by decide)).mpr q4), (nI_ltI (b := 20) (by omega) (by decide)).mp q5⟩ ok
    · obtain ⟨v1, v2⟩ := hh ν hv
      have fin : (some (Value.int (-1)) = some (Value.int (-1)) ∧ vM μ (m2_si ν kM 22 0) ∧ frM ν (m2_si ν kM 22 0)) := ⟨rfl, hv.thr, fr_si rfl fr.rf⟩
      refine m2_MT.intro (ls := [.ref kM, .int x, .int y, .int z]) (by decide +kernel) rfl (Nat.le_of_ble_eq_true rfl) (fun κ hk => ?_)
      refine B_X12_says_0 hk (by omega) ⟨fun q1 => ⟨fun q2 => ⟨fun q3 => ⟨fun q4 => ?_, fun _ => fin⟩, fun _ => fin⟩, fun _ => fin⟩, fun _ => fin⟩
      rw [v1] at q4
      have : ¬ s = 20 := fun e => q4 (by rw [e]; rfl)
      exact absurd ⟨(in_k (k := 3) (by decide)).mp q1, (fX12_isDoor_iff (μ := m2_si ν kM 22 0) v2 d3).mp q2, (in_k (k := 60) (by decide)).mp q3, by omega⟩ ok
/-- trust -/
def tru (ν : m2M) (x : Int32) : Nat → Int32 × Int32 × Int32
  | 0 => (0, 0, 0)
  | i + 1 => if ν.1 kM_saysWho i = x then ((tru ν x i).1 + (if (m2_abs ((ν.1 kM_saysNumber i) - (ν.1 kM_left (ν.1 kM_saysDoor i).toNatClampNeg))) = 0 then 1 else 0 : Int32), (tru ν x i).2.1 + 1, (tru ν x i).2.2 + (m2_abs ((ν.1 kM_saysNumber i) - (ν.1 kM_left (ν.1 kM_saysDoor i).toNatClampNeg)))) else tru ν x i
theorem T_trust {D : Nat} (hD : 2 ≤ D) (x : Int32) (μ : m2M) (h : REL μ) : stp D yX11_trust cX11_trust 7 (some .int) yX12_trust cX12_trust 7 (some .int) [.int x] μ REL := by
  obtain ⟨D, rfl⟩ : ∃ E, D = E + 1 := ⟨D - 1, by omega⟩
  obtain ⟨n, p, h1, h2, h3, h4, h5, h6, h7, h8, h9⟩ := id h
  obtain ⟨s, s1, s2, s3, s4⟩ := id h5
  obtain ⟨d1, d2, d3, d4⟩ := id h1
  by_cases ok : in_ 4 x
  · refine T_of (some (.int (tru μ x s).1)) (tlM μ [(tru μ x s).2.1.toInt64, (tru μ x s).2.2.toInt64]) ?_ (fun ν hv => ?_)
    · refine m2_MT.intro (ls := [.ref kC, .int x, .null, .null, .null, .null, .null]) (by decide +kernel) rfl (Nat.le_of_ble_eq_true rfl) (fun κ hk => ?_)
      obtain ⟨x', hx', e⟩ := id ok
      refine B_X11_trust_0 hk ⟨fun q => absurd q (by rw [e]; exact nI_pos (by omega)), fun _ => ⟨fun _ => ?_, fun q => absurd (by rw [e]; exact nI_lt (b := 4) hx' (by decide)) q⟩⟩
      refine dn (n := s) (G := fun i => κ 21 [.ref kC, .int x, .int (tru μ x i).2.1, .int (tru μ x i).1, .int (tru μ x i).2.2, .int (nI i), .null] [] μ) ?_ (fun i hi ih => ?_)
      · refine B_X11_trust_21 hk (Nat.zero_le _) ⟨fun _ => ⟨_, S_tellC _ _ rC.i (by decide), fun μ4 r4 => ⟨_, S_tellC _ _ r4.1 (ble rfl), fun μ9 r9 => ⟨rfl, ?_, ?_⟩⟩⟩, fun q => absurd (by rw [s2]; exact nI_le (Nat.le_refl s) (by omega)) q⟩
        · exact REL2.tell h r9.1 ((twC.i.tr r4.2).tr r9.2) (ble rfl)
        · exact r9.2.fr rfl rfl (r4.2.fr rfl rfl (twC.i.fr rfl rfl fr.rf))
      · refine B_X11_trust_21 hk (Nat.zero_le _) ⟨fun q => absurd (by rw [s2] at q; exact q) (nI_ge hi (by omega)), fun _ => ⟨vp_in_nI (by omega) (by decide), ?_⟩⟩
        obtain ⟨a1, a2, a3, a4, ⟨a, ha, a5⟩, a6⟩ := s4 i hi
        rw [nI_clamp (by omega), a1, a2, a3, nI_1]
        have eL : μ.1 kD_left (μ.1 kM_saysDoor i).toNatClampNeg = μ.1 kM_left (μ.1 kM_saysDoor i).toNatClampNeg := by
          rw [a5, nI_clamp (by omega)]
          exact (d4 a ha).1.2.2.2.2.1
        rw [eL]
        simp only [tru] at ih
        refine ⟨fun q => ?_, fun q => ⟨?_, ?_⟩⟩
        · simp only [if_neg q] at ih
          exact ih
        · rw [a5]; exact vp_in_nI (by omega) (by decide)
        · simp only [if_pos q] at ih
          exact ih
    · refine m2_MT.intro (ls := [.ref kM, .int x, .null, .null, .null, .null, .null]) (by decide +kernel) rfl (Nat.le_of_ble_eq_true rfl) (fun κ hk => ?_)
      have hv' := hv.thr
      have e64 := (hv'.1 kM 64 rfl rfl).trans s3
      refine B_X12_trust_0 hk (Nat.zero_le _) ⟨fun _ => ?_, fun q => absurd ((in_k (k := 3) (by decide)).mpr ok) q⟩
      refine dn (n := s) (G := fun i => κ 26 [.ref kM, .int x, .int (tru μ x i).1, .int (tru μ x i).2.1, .int (tru μ x i).2.2, .int (nI i), .null] [] (m2_si ν kM 22 0)) ?_ (fun i hi ih => ?_)
      · refine B_X12_trust_26 hk (Nat.zero_le _) ⟨fun _ => ⟨_, S_tellM _ _ rM.i (by decide), fun μ4 r4 => ⟨_, S_tellM _ _ r4.1 (ble rfl), fun μ9 r9 => ⟨rfl, ?_, ?_⟩⟩⟩, fun q => absurd (by rw [e64]; exact nI_le (Nat.le_refl s) (by omega)) q⟩
        · exact hv'.tell r9.1 ((twM.i.tr r4.2).tr r9.2) (ble rfl)
        · exact r9.2.fr rfl rfl (r4.2.fr rfl rfl (twM.i.fr rfl rfl (fr_si rfl fr.rf)))
      · refine B_X12_trust_26 hk (Nat.zero_le _) ⟨fun q => absurd (by rw [e64] at q; exact q) (nI_ge hi (by omega)), fun _ => ⟨vp_in_nI (by omega) (by decide), ?_⟩⟩
        obtain ⟨a1, a2, a3, a4, ⟨a, ha, a5⟩, a6⟩ := s4 i hi
        rw [nI_clamp (by omega), hv'.1 kM_saysWho i rfl rfl, hv'.1 kM_saysDoor i rfl rfl, hv'.1 kM_saysNumber i rfl rfl, nI_1, hv'.1 kM_left _ rfl rfl]
        simp only [tru] at ih
        refine ⟨fun q => ⟨?_, ?_⟩, fun q => ?_⟩
        · rw [a5]; exact vp_in_nI (by omega) (by decide)
        · simp only [if_pos q] at ih
          exact ih
        · simp only [if_neg q] at ih
          exact ih
  · refine T_of (some (.int (-1))) μ ?_ (fun ν hv => ?_)
    · refine m2_MT.intro (ls := [.ref kC, .int x, .null, .null, .null, .null, .null]) (by decide +kernel) rfl (Nat.le_of_ble_eq_true rfl) (fun κ hk => ?_)
      exact B_X11_trust_0 hk ⟨fun _ => ⟨rfl, h, fr.rf⟩, fun q0 => ⟨fun q1 => absurd (i32_in (k := 4) (by decide) q0 q1) ok, fun _ => ⟨rfl, h, fr.rf⟩⟩⟩
    · refine m2_MT.intro (ls := [.ref kM, .int x, .null, .null, .null, .null, .null]) (by decide +kernel) rfl (Nat.le_of_ble_eq_true rfl) (fun κ hk => ?_)
      exact B_X12_trust_0 hk (Nat.zero_le _) ⟨fun q => absurd ((in_k (k := 3) (by decide)).mp q) ok, fun _ => ⟨rfl, hv.thr, fr_si rfl fr.rf⟩⟩
