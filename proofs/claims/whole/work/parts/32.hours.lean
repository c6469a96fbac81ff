/-! hours, sheet -/
/-- a row of LEFT changed up to i -/
def lft (f g : Nat → Int32) (i : Nat) : Nat → Int32 := fun d => if d < i then g d else f d
theorem lft_0 (f g : Nat → Int32) : lft f g 0 = f := by
  funext d
  unfold lft
  rw [if_neg (Nat.not_lt_zero d)]
theorem lft_s (f g : Nat → Int32) (i : Nat) : upd (lft f g i) i (g i) = lft f g (i + 1) := by
  funext d
  unfold lft upd
  by_cases e : d = i
  · rw [if_pos e, if_pos (by omega), e]
  · rw [if_neg e]
    show (if d < i then g d else f d) = _
    by_cases e2 : d < i
    · rw [if_pos e2, if_pos (by omega)]
    · rw [if_neg e2, if_neg (by omega)]
theorem lft_k {f g : Nat → Int32} {i : Nat} (h : g i = f i) : lft f g i = lft f g (i + 1) := by
  rw [← lft_s]
  funext d
  unfold lft upd
  by_cases e : d = i
  · rw [if_pos e, if_neg (by omega), e, h]
  · rw [if_neg e]
/-- the DOORS' LEFT is another: on both sides -/
theorem REL2.left {ν μ : m2M} {f g : Nat → Int32} (q : REL2 ν μ) (h : ∀ n, ν.1 kM 0 = nI n → n ≤ 20 → ∀ d, d < n → f d = g d ∧ in_ 61 (g d)) : REL2 (m2_sr ν kM_left g) (m2_sr μ kD_left f) := by
  obtain ⟨n, p, h1, h2, h3, h4, h5, h6, h7, h8, h9⟩ := q
  refine ⟨n, p, ⟨h1.1, h1.2.1, h1.2.2.1, fun d hd => ?_⟩, h2, h3, h4, h5, r_K_c (Or.inl (by decide)) (r_K_m rfl h6), h7, h8, h9⟩
  obtain ⟨⟨a1, a2, a3, a4, a5, a6⟩, a7, a8, a9, a10, a11, a12, a13⟩ := h1.2.2.2 d hd
  obtain ⟨b1, b2⟩ := h n h1.2.1 h1.2.2.1 d hd
  exact ⟨⟨a1, a2, a3, a4, b1, a6⟩, a7, a8, a9, a10, a11, b2, a13⟩
theorem REL2.hour {ν μ : m2M} {x : Int32} (q : REL2 ν μ) (h : in_ 24 x) : REL2 (m2_si ν kM 16 x) (m2_si μ kD 7 x) := by
  obtain ⟨n, p, h1, h2, h3, h4, h5, h6, h7, h8, h9⟩ := q
  exact ⟨n, p, h1, h2, h3, h4, h5, r_K_c (Or.inl (by decide)) (r_K_m rfl h6), ⟨rfl, h⟩, h8, h9⟩
def nnF (ν : m2M) (v : Int32) : Nat → Int32 := fun d => if v = 0 ∨ ν.1 kM_atNoon d = -1 then ν.1 kM_left d else ν.1 kM_atNoon d
theorem T_hours {D : Nat} (hD : 2 ≤ D) (x : Int32) (μ : m2M) (h : REL μ) : stp D yX11_hours cX11_hours 2 (some .int) yX12_hours cX12_hours 4 (some .int) [.int x] μ REL := by
  obtain ⟨D, rfl⟩ : ∃ E, D = E + 1 := ⟨D - 1, by omega⟩
  obtain ⟨n, p, h1, h2, h3, h4, h5, h6, h7, h8, h9⟩ := id h
  obtain ⟨d1, d2, d3, d4⟩ := id h1
  obtain ⟨k1, t, k2, k3⟩ := id h7
  by_cases ok : ∃ a : Nat, x = nI a ∧ a < 24 ∧ t + a < 24
  · obtain ⟨a, rfl, ha, hta⟩ := ok
    let v : Int32 := if 12 ≤ nI t then 0 else (if nI (t + a) < 12 then 0 else 1)
    refine T_of (some (.int (nI (t + a)))) (m2_si (m2_sr μ kM_left (lft (μ.1 kM_left) (nnF μ v) n)) kM 16 (nI (t + a))) ?_ (fun ν hv => ?_)
    · refine m2_MT.intro (ls := [.ref kC, .int (nI a)]) (by decide +kernel) rfl (ble rfl) (fun κ hk => ?_)
      refine B_X11_hours_0 hk ⟨fun q => absurd q (nI_pos (by omega)), fun _ => ⟨fun q => absurd q (nI_nlt (a := 23) (by omega) (by decide)), fun _ => ?_⟩⟩
      rw [k1, k3, nI_add]
      refine ⟨fun _ => ?_, fun q => absurd (nI_le (b := 23) (by omega) (by decide)) q⟩
      let g : Nat → Int32 := fun d => if d < n then nnF μ v d else μ.1 kD_left d
      refine ⟨fun _ μ5 => μ5 = m2_sr (m2_si μ kD 7 (nI (t + a))) kD_left (lft (μ.1 kD_left) g n), ?_, fun μ5 e5 => ?_⟩
      · refine m2_MT.intro (ls := [.ref kD, .int (nI a), .null, .null]) (by decide +kernel) rfl (ble rfl) (fun κ' hk' => ?_)
        refine B_X0_goOn_0 hk' ?_
        rw [k1, k3, nI_add]
        have key := dn (n := n) (G := fun i => κ' 38 [.ref kD, .int (nI a), .int v, .int (nI i)] [] (m2_sr (m2_si μ kD 7 (nI (t + a))) kD_left (lft (μ.1 kD_left) g i))) ?_ (fun i hi ih => ?_)
        · rw [lft_0] at key
          rw [show m2_sr (m2_si μ kD 7 (nI (t + a))) kD_left (μ.1 kD_left) = m2_si μ kD 7 (nI (t + a)) from m2_sr_id (m2_si μ kD 7 (nI (t + a))) kD_left] at key
          exact key
        · exact B_X0_goOn_38 hk' ⟨fun _ => rfl, fun q => absurd (show μ.1 kD 6 ≤ nI n by rw [d1]; exact nI_le (Nat.le_refl n) (by omega)) q⟩
        · refine B_X0_goOn_38 hk' ⟨fun q => absurd (show nI n ≤ nI i by rw [← d1]; exact q) (nI_ge hi (by omega)), fun _ => ⟨fun q => ?_, fun q => ⟨vp_in_nI (by omega) (by decide), ?_⟩⟩⟩
          · have : ∀ j, i ≤ j → j ≤ n → lft (μ.1 kD_left) g i = lft (μ.1 kD_left) g j := by
              intro j
              induction j with
              | zero => intro h1 _; rw [show i = 0 by omega]
              | succ j ihj =>
                intro h1 h2
                by_cases e : i = j + 1
                · rw [e]
                · rw [ihj (by omega) (by omega)]
                  refine lft_k ?_
                  show (if j < n then nnF μ v j else μ.1 kD_left j) = _
                  rw [if_pos (by omega)]
                  unfold nnF
                  rw [if_pos (Or.inl q)]
                  exact (d4 j (by omega)).1.2.2.2.2.1.symm
            rw [this n (by omega) (Nat.le_refl n)]
          · rw [nI_clamp (by omega), nI_1]
            have e6 : (m2_sr (m2_si μ kD 7 (nI (t + a))) kD_left (lft (μ.1 kD_left) g i)).1 kD_noon i = μ.1 kM_atNoon i := (d4 i hi).1.2.2.2.2.2
            rw [e6]
            have gi : g i = nnF μ v i := if_pos hi
            refine ⟨fun z => ?_, fun z => ?_⟩
            · rw [lft_k (g := g)]
              · exact ih
              · rw [gi]
                unfold nnF
                rw [if_pos (Or.inr z)]
                exact (d4 i hi).1.2.2.2.2.1.symm
            · rw [m2_si_sr, show μ.1 kM_atNoon i = g i from ?_, lft_s]
              · exact ih
              · rw [gi]
                unfold nnF
                rw [if_neg (fun w => w.elim q z)]
      · subst e5
        refine ⟨rfl, ?_, fr_sr rfl (fr_si rfl fr.rf)⟩
        have hh := REL2.left (f := lft (μ.1 kD_left) g n) (g := lft (μ.1 kM_left) (nnF μ v) n) (REL2.hour (x := nI (t + a)) h ⟨t + a, hta, rfl⟩) ?_
        · exact hh
        · intro n' e1 e2 d hd
          have : n' = n := (nI_eq (by omega) (by omega)).mp (e1.symm.trans d2)
          subst this
          unfold lft
          rw [if_pos hd, if_pos hd]
          refine ⟨if_pos hd, ?_⟩
          unfold nnF
          by_cases w : v = 0 ∨ μ.1 kM_atNoon d = -1
          · rw [if_pos w]; exact (d4 d hd).2.2.2.2.2.2.1
          · rw [if_neg w]
            rcases (d4 d hd).2.2.2.2.2.2.2 with w2 | w2
            · exact absurd (Or.inr w2) w
            · exact w2
    · have hv' := hv.thr
      have g0 : ν.1 kM 0 = nI n := (hv.1 kM 0 rfl rfl).trans d2
      have g16 : ν.1 kM 16 = nI t := (hv.1 kM 16 rfl rfl).trans k3
      refine m2_MT.intro (ls := [.ref kM, .int (nI a), .null, .null]) (by decide +kernel) rfl (ble rfl) (fun κ hk => ?_)
      refine B_X12_hours_0 hk (Nat.zero_le _) ⟨fun _ => ?_, fun q => absurd ((in_k (k := 23) (by decide)).mpr ⟨a, ha, rfl⟩) q⟩
      rw [g16, nI_add]
      refine ⟨fun _ => ?_, fun q => absurd (nI_le (b := 23) (by omega) (by decide)) q⟩
      have fin : ∀ f : Nat → Int32, (∀ d, f d = lft (μ.1 kM_left) (nnF μ v) n d) → (some (Value.int (((m2_sr (m2_si ν kM 22 0) kM_left f).1 kM 16) + nI a)) = some (Value.int (nI (t + a))) ∧ vM (m2_si (m2_sr μ kM_left (lft (μ.1 kM_left) (nnF μ v) n)) kM 16 (nI (t + a))) (m2_si (m2_sr (m2_si ν kM 22 0) kM_left f) kM 16 (((m2_sr (m2_si ν kM 22 0) kM_left f).1 kM 16) + nI a)) ∧ frM ν (m2_si (m2_sr (m2_si ν kM 22 0) kM_left f) kM 16 (((m2_sr (m2_si ν kM 22 0) kM_left f).1 kM 16) + nI a))) := by
        intro f hf
        have e : (m2_sr (m2_si ν kM 22 0) kM_left f).1 kM 16 = nI t := g16
        rw [e, nI_add]
        exact ⟨rfl, (hv'.sr (by decide) (fun j _ => hf j)).si rfl, fr_si rfl (fr_sr rfl (fr_si rfl fr.rf))⟩
      have hl : ∀ d, ν.1 kM_left d = μ.1 kM_left d := fun d => hv.1 kM_left d rfl rfl
      have key := dn (n := n) (G := fun i => κ 56 [.ref kM, .int (nI a), .int v, .int (nI i)] [] (m2_sr (m2_si ν kM 22 0) kM_left (lft (μ.1 kM_left) (nnF μ v) i))) ?_ (fun i hi ih => ?_)
      · rw [lft_0] at key
        rw [show m2_sr (m2_si ν kM 22 0) kM_left (μ.1 kM_left) = m2_si ν kM 22 0 from by rw [← show ν.1 kM_left = μ.1 kM_left from funext hl]; exact m2_sr_id (m2_si ν kM 22 0) kM_left] at key
        exact key
      · exact B_X12_hours_56 hk ⟨fun _ => fin _ (fun _ => rfl), fun q => absurd (show ν.1 kM 0 ≤ nI n by rw [g0]; exact nI_le (Nat.le_refl n) (by omega)) q⟩
      · refine B_X12_hours_56 hk ⟨fun q => absurd (show nI n ≤ nI i by rw [← g0]; exact q) (nI_ge hi (by omega)), fun _ => ⟨fun q => ?_, fun q => ⟨vp_in_nI (by omega) (by decide), ?_⟩⟩⟩
        · refine fin _ (fun d => ?_)
          unfold lft nnF
          simp only [if_pos (Or.inl q : v = 0 ∨ _)]
          by_cases z1 : d < i <;> by_cases z2 : d < n <;> simp [z1, z2]
        · rw [nI_clamp (by omega), nI_1]
          have e6 : (m2_sr (m2_si ν kM 22 0) kM_left (lft (μ.1 kM_left) (nnF μ v) i)).1 kM_atNoon i = μ.1 kM_atNoon i := hv.1 kM_atNoon i rfl rfl
          rw [e6]
          refine ⟨fun z => ?_, fun z => ?_⟩
          · rw [lft_k (g := nnF μ v)]
            · exact ih
            · unfold nnF
              rw [if_pos (Or.inr z)]
          · rw [m2_si_sr, show μ.1 kM_atNoon i = nnF μ v i from ?_, lft_s]
            · exact ih
            · unfold nnF
              rw [if_neg (fun w => w.elim q z)]
  · refine T_of (some (.int (-1))) μ ?_ (fun ν hv => ?_)
    · refine m2_MT.intro (ls := [.ref kC, .int x]) (by decide +kernel) rfl (ble rfl) (fun κ hk => ?_)
      refine B_X11_hours_0 hk ⟨fun _ => ⟨rfl, h, fr.rf⟩, fun q0 => ⟨fun _ => ⟨rfl, h, fr.rf⟩, fun q1 => ⟨fun q2 => ?_, fun _ => ⟨rfl, h, fr.rf⟩⟩⟩⟩
      obtain ⟨a, ha, rfl⟩ := i32_in (k := 24) (by decide) q0 ((i32_lt_succ (k := 23) (by decide)).mpr q1)
      rw [k1, k3, nI_add] at q2
      exact absurd ⟨a, rfl, ha, by have := (nI_leI (a := t + a) (b := 23) (by omega) (by decide)).mp q2; omega⟩ ok
    · have fin : (some (Value.int (-1)) = some (Value.int (-1)) ∧ vM μ (m2_si ν kM 22 0) ∧ frM ν (m2_si ν kM 22 0)) := ⟨rfl, hv.thr, fr_si rfl fr.rf⟩
      refine m2_MT.intro (ls := [.ref kM, .int x, .null, .null]) (by decide +kernel) rfl (ble rfl) (fun κ hk => ?_)
      refine B_X12_hours_0 hk (Nat.zero_le _) ⟨fun q => ⟨fun q2 => ?_, fun _ => fin⟩, fun _ => fin⟩
      obtain ⟨a, ha, rfl⟩ := (in_k (k := 23) (by decide)).mp q
      rw [hv.1 kM 16 rfl rfl, k3, nI_add] at q2
      exact absurd ⟨a, rfl, ha, by have := (nI_leI (a := t + a) (b := 23) (by omega) (by decide)).mp q2; omega⟩ ok
