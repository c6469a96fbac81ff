/-! LINES one behind the other, on both sides -/
theorem rdD_ok {g : Nat → Int32} {k a : Nat} (ha : a ≤ 76) : (a ≤ (rdD (cp_hT 76 g k) a).2.1 + 1 ∧ (rdD (cp_hT 76 g k) a).2.1 ≤ 76) ∧ ((rdD (cp_hT 76 g k) a).1 = true → a ≤ (rdD (cp_hT 76 g k) a).2.1 ∧ in_ 12 (rdD (cp_hT 76 g k) a).2.2.1 ∧ in_ 12 (rdD (cp_hT 76 g k) a).2.2.2.1 ∧ (rdD (cp_hT 76 g k) a).2.2.1 ≠ (rdD (cp_hT 76 g k) a).2.2.2.1 ∧ b01 (rdD (cp_hT 76 g k) a).2.2.2.2.1 ∧ in_ 61 (rdD (cp_hT 76 g k) a).2.2.2.2.2.1 ∧ ((rdD (cp_hT 76 g k) a).2.2.2.2.2.2 = -1 ∨ in_ 61 (rdD (cp_hT 76 g k) a).2.2.2.2.2.2)) := by
  generalize hRD : rdD (cp_hT 76 g k) a = RD
  unfold rdD at hRD
  simp only at hRD
  have p1 := nmR_pos (g := g) (k := k) (a := a) (hi := 11) ha
  have v1 : (nmR (cp_hT 76 g k) 11 a).1 = true → in_ 12 (nmR (cp_hT 76 g k) 11 a).2.2 := nmR_val (hf := cp_hT 76 g k) (a := a) (h := 11) (by decide)
  generalize hr1 : nmR (cp_hT 76 g k) 11 a = r1 at *
  by_cases z1 : r1.1 = true
  · rw [if_pos z1] at hRD
    by_cases z2 : cp_hT 76 g k r1.2.1 = 62 ∨ cp_hT 76 g k r1.2.1 = 45
    · rw [if_pos z2] at hRD
      have hlt : r1.2.1 < 76 := by rcases z2 with z | z; exact hT_76 (c := 62) z (by decide); exact hT_76 (c := 45) z (by decide)
      have p2 := nmR_pos (g := g) (k := k) (a := r1.2.1 + 1) (hi := 11) (by omega)
      have v2 : (nmR (cp_hT 76 g k) 11 (r1.2.1 + 1)).1 = true → in_ 12 (nmR (cp_hT 76 g k) 11 (r1.2.1 + 1)).2.2 := nmR_val (hf := cp_hT 76 g k) (a := r1.2.1 + 1) (h := 11) (by decide)
      generalize hr2 : nmR (cp_hT 76 g k) 11 (r1.2.1 + 1) = r2 at *
      by_cases z3 : r2.1 = true
      · rw [if_pos z3] at hRD
        by_cases z4 : r2.2.2 = r1.2.2
        · rw [if_pos z4] at hRD
          subst hRD
          refine ⟨⟨?_, ?_⟩, fun w => absurd w (by simp)⟩ <;> simp only <;> omega
        · rw [if_neg z4] at hRD
          by_cases z5 : cp_hT 76 g k r2.2.1 = 44
          · rw [if_pos z5] at hRD
            have hlt2 := hT_76 (c := 44) z5 (by decide)
            have p3 := nmR_pos (g := g) (k := k) (a := r2.2.1 + 1) (hi := 60) (by omega)
            have v3 : (nmR (cp_hT 76 g k) 60 (r2.2.1 + 1)).1 = true → in_ 61 (nmR (cp_hT 76 g k) 60 (r2.2.1 + 1)).2.2 := nmR_val (hf := cp_hT 76 g k) (a := r2.2.1 + 1) (h := 60) (by decide)
            generalize hr3 : nmR (cp_hT 76 g k) 60 (r2.2.1 + 1) = r3 at *
            by_cases z6 : r3.1 = true
            · rw [if_pos z6] at hRD
              have bb : b01 (if cp_hT 76 g k r1.2.1 = 62 then (1 : Int32) else 0) := by
                by_cases z : cp_hT 76 g k r1.2.1 = 62
                · rw [if_pos z]; exact Or.inr rfl
                · rw [if_neg z]; exact Or.inl rfl
              by_cases z7 : cp_hT 76 g k r3.2.1 = 64
              · rw [if_pos z7] at hRD
                have hlt3 := hT_76 (c := 64) z7 (by decide)
                have p4 := nmR_pos (g := g) (k := k) (a := r3.2.1 + 1) (hi := 60) (by omega)
                have v4 : (nmR (cp_hT 76 g k) 60 (r3.2.1 + 1)).1 = true → in_ 61 (nmR (cp_hT 76 g k) 60 (r3.2.1 + 1)).2.2 := nmR_val (hf := cp_hT 76 g k) (a := r3.2.1 + 1) (h := 60) (by decide)
                generalize hr4 : nmR (cp_hT 76 g k) 60 (r3.2.1 + 1) = r4 at *
                by_cases z8 : r4.1 = true
                · rw [if_pos z8] at hRD
                  subst hRD
                  exact ⟨⟨by simp only; omega, p4.2⟩, fun _ => ⟨by simp only; omega, v1 z1, v2 z3, fun z => z4 z.symm, bb, v3 z6, Or.inr (v4 z8)⟩⟩
                · rw [if_neg z8] at hRD
                  subst hRD
                  exact ⟨⟨by simp only; omega, p4.2⟩, fun w => absurd w (by simp)⟩
              · rw [if_neg z7] at hRD
                subst hRD
                exact ⟨⟨by simp only; omega, p3.2⟩, fun _ => ⟨by simp only; omega, v1 z1, v2 z3, fun z => z4 z.symm, bb, v3 z6, Or.inl rfl⟩⟩
            · rw [if_neg z6] at hRD
              subst hRD
              exact ⟨⟨by simp only; omega, p3.2⟩, fun w => absurd w (by simp)⟩
          · rw [if_neg z5] at hRD
            subst hRD
            exact ⟨⟨by simp only; omega, p2.2⟩, fun w => absurd w (by simp)⟩
      · rw [if_neg z3] at hRD
        subst hRD
        exact ⟨⟨by simp only; omega, p2.2⟩, fun w => absurd w (by simp)⟩
    · rw [if_neg z2] at hRD
      subst hRD
      exact ⟨⟨by simp only; omega, p1.2⟩, fun w => absurd w (by simp)⟩
  · rw [if_neg z1] at hRD
    subst hRD
    exact ⟨⟨by simp only; omega, p1.2⟩, fun w => absurd w (by simp)⟩
theorem rdO_ok {g : Nat → Int32} {k a : Nat} (ha : a ≤ 76) : (a ≤ (rdO (cp_hT 76 g k) a).2.1 ∧ (rdO (cp_hT 76 g k) a).2.1 ≤ 76) ∧ ((rdO (cp_hT 76 g k) a).1 = true → in_ 12 (rdO (cp_hT 76 g k) a).2.2.1 ∧ in_ 100 (rdO (cp_hT 76 g k) a).2.2.2.1 ∧ ((rdO (cp_hT 76 g k) a).2.2.2.2.1 = -1 ∨ in_ 12 (rdO (cp_hT 76 g k) a).2.2.2.2.1) ∧ b01 (rdO (cp_hT 76 g k) a).2.2.2.2.2) := by
  generalize hRD : rdO (cp_hT 76 g k) a = RD
  unfold rdO at hRD
  simp only at hRD
  have p1 := nmR_pos (g := g) (k := k) (a := a) (hi := 11) ha
  have v1 : (nmR (cp_hT 76 g k) 11 a).1 = true → in_ 12 (nmR (cp_hT 76 g k) 11 a).2.2 := nmR_val (hf := cp_hT 76 g k) (a := a) (h := 11) (by decide)
  generalize hr1 : nmR (cp_hT 76 g k) 11 a = r1 at *
  by_cases z1 : r1.1 = true
  · rw [if_pos z1] at hRD
    by_cases z5 : cp_hT 76 g k r1.2.1 = 44
    · rw [if_pos z5] at hRD
      have hlt2 := hT_76 (c := 44) z5 (by decide)
      have p2 := nmR_pos (g := g) (k := k) (a := r1.2.1 + 1) (hi := 99) (by omega)
      have v2 : (nmR (cp_hT 76 g k) 99 (r1.2.1 + 1)).1 = true → in_ 100 (nmR (cp_hT 76 g k) 99 (r1.2.1 + 1)).2.2 := nmR_val (hf := cp_hT 76 g k) (a := r1.2.1 + 1) (h := 99) (by decide)
      generalize hr2 : nmR (cp_hT 76 g k) 99 (r1.2.1 + 1) = r2 at *
      by_cases z3 : r2.1 = true
      · rw [if_pos z3] at hRD
        by_cases z7 : cp_hT 76 g k r2.2.1 = 62
        · rw [if_pos z7] at hRD
          have hlt3 := hT_76 (c := 62) z7 (by decide)
          have p3 := nmR_pos (g := g) (k := k) (a := r2.2.1 + 1) (hi := 11) (by omega)
          have v3 : (nmR (cp_hT 76 g k) 11 (r2.2.1 + 1)).1 = true → in_ 12 (nmR (cp_hT 76 g k) 11 (r2.2.1 + 1)).2.2 := nmR_val (hf := cp_hT 76 g k) (a := r2.2.1 + 1) (h := 11) (by decide)
          generalize hr3 : nmR (cp_hT 76 g k) 11 (r2.2.1 + 1) = r3 at *
          by_cases z8 : r3.1 = true
          · rw [if_pos z8] at hRD
            by_cases z9 : cp_hT 76 g k r3.2.1 = 60
            · rw [if_pos z9] at hRD
              have hlt4 := hT_76 (c := 60) z9 (by decide)
              subst hRD
              exact ⟨⟨by simp only; omega, by simp only; omega⟩, fun _ => ⟨v1 z1, v2 z3, Or.inr (v3 z8), Or.inr rfl⟩⟩
            · rw [if_neg z9] at hRD
              subst hRD
              exact ⟨⟨by simp only; omega, p3.2⟩, fun _ => ⟨v1 z1, v2 z3, Or.inr (v3 z8), Or.inl rfl⟩⟩
          · rw [if_neg z8] at hRD
            subst hRD
            exact ⟨⟨by simp only; omega, p3.2⟩, fun w => absurd w (by simp)⟩
        · rw [if_neg z7] at hRD
          subst hRD
          exact ⟨⟨by simp only; omega, p2.2⟩, fun _ => ⟨v1 z1, v2 z3, Or.inl rfl, Or.inl rfl⟩⟩
      · rw [if_neg z3] at hRD
        subst hRD
        exact ⟨⟨by simp only; omega, p2.2⟩, fun w => absurd w (by simp)⟩
    · rw [if_neg z5] at hRD
      subst hRD
      exact ⟨⟨by simp only; omega, p1.2⟩, fun w => absurd w (by simp)⟩
  · rw [if_neg z1] at hRD
    subst hRD
    exact ⟨⟨by simp only; omega, p1.2⟩, fun w => absurd w (by simp)⟩
/-- a LINE -/
def rdL (hf : Nat → Int32) (a : Nat) (s : m2M × Nat × Nat) : Bool × Nat × m2M × Nat × Nat :=
  if hf a = 100 ∧ s.2.1 < 20 then
    (if (rdD hf (a + 1)).1 = true then (true, (rdD hf (a + 1)).2.1, adD s.1 s.2.1 (rdD hf (a + 1)).2.2, s.2.1 + 1, s.2.2) else (false, (rdD hf (a + 1)).2.1, s))
  else if (hf a = 112 ∨ hf a = 115) ∧ s.2.2 < 8 then
    (if (rdO hf (a + 1)).1 = true then (true, (rdO hf (a + 1)).2.1, adO s.1 s.2.2 (if hf a = 115 then 1 else 0) (rdO hf (a + 1)).2.2, s.2.1, s.2.2 + 1) else (false, (rdO hf (a + 1)).2.1, s))
  else (false, a, s)
/-- behind a LINE -/
def rdA (hf : Nat → Int32) (k : Nat) : Nat → Nat → m2M × Nat × Nat → Nat → Bool × Nat × (m2M × Nat × Nat) × Nat
  | 0, a, s, c => (false, a, s, c)
  | f + 1, a, s, c => if hf a = 59 then (if (rdL hf (a + 1) s).1 = true then rdA hf k f (rdL hf (a + 1) s).2.1 (rdL hf (a + 1) s).2.2 (c + 1) else (false, (rdL hf (a + 1) s).2.1, s, c + 1)) else if k ≤ a then (true, a, s, c) else (false, a, s, c)
def rdT (hf : Nat → Int32) (k : Nat) (s : m2M × Nat × Nat) : Bool × Nat × (m2M × Nat × Nat) × Nat := if k = 0 then (true, 0, s, 0) else if (rdL hf 0 s).1 = true then rdA hf k 80 (rdL hf 0 s).2.1 (rdL hf 0 s).2.2 1 else (false, (rdL hf 0 s).2.1, s, 1)
theorem rdL_pos {g : Nat → Int32} {k a : Nat} {s : m2M × Nat × Nat} (ha : a ≤ 76) : (rdL (cp_hT 76 g k) a s).2.1 ≤ 76 ∧ ((rdL (cp_hT 76 g k) a s).1 = true → a + 1 ≤ (rdL (cp_hT 76 g k) a s).2.1) := by
  unfold rdL
  by_cases z1 : cp_hT 76 g k a = 100 ∧ s.2.1 < 20
  · have hlt := hT_76 (c := 100) z1.1 (by decide)
    obtain ⟨⟨h1, h2⟩, h3⟩ := rdD_ok (g := g) (k := k) (a := a + 1) (by omega)
    rw [if_pos z1]
    by_cases z2 : (rdD (cp_hT 76 g k) (a + 1)).1 = true
    · rw [if_pos z2]; exact ⟨h2, fun _ => (h3 z2).1⟩
    · rw [if_neg z2]; exact ⟨h2, fun w => absurd w (by simp)⟩
  · rw [if_neg z1]
    by_cases z3 : (cp_hT 76 g k a = 112 ∨ cp_hT 76 g k a = 115) ∧ s.2.2 < 8
    · have hlt : a < 76 := by rcases z3.1 with z | z; exact hT_76 (c := 112) z (by decide); exact hT_76 (c := 115) z (by decide)
      obtain ⟨⟨h1, h2⟩, h3⟩ := rdO_ok (g := g) (k := k) (a := a + 1) (by omega)
      rw [if_pos z3]
      by_cases z2 : (rdO (cp_hT 76 g k) (a + 1)).1 = true
      · rw [if_pos z2]; exact ⟨h2, fun _ => h1⟩
      · rw [if_neg z2]; exact ⟨h2, fun w => absurd w (by simp)⟩
    · rw [if_neg z3]
      exact ⟨ha, fun w => absurd w (by simp)⟩
/-- DOORS and PEOPLE alike on both sides -/
def eD (ν μ : m2M) (d : Nat) : Prop := (μ.1 kD_a d = ν.1 kM_doorA d ∧ μ.1 kD_b d = ν.1 kM_doorB d ∧ μ.1 kD_oneWay d = ν.1 kM_isOneWay d ∧ μ.1 kD_lets d = ν.1 kM_lets d ∧ μ.1 kD_left d = ν.1 kM_left d ∧ μ.1 kD_noon d = ν.1 kM_atNoon d) ∧ in_ 12 (ν.1 kM_doorA d) ∧ in_ 12 (ν.1 kM_doorB d) ∧ ν.1 kM_doorA d ≠ ν.1 kM_doorB d ∧ b01 (ν.1 kM_isOneWay d) ∧ in_ 61 (ν.1 kM_lets d) ∧ in_ 61 (ν.1 kM_left d) ∧ (ν.1 kM_atNoon d = -1 ∨ in_ 61 (ν.1 kM_atNoon d))
def eP (ν μ : m2M) (q : Nat) : Prop := ((μ.1 kP_where q = ν.1 kM_where q ∧ μ.1 kP_first q = ν.1 kM_home q ∧ μ.1 kP_stranger q = ν.1 kM_isStranger q ∧ μ.1 kP_worth q = ν.1 kM_worth q ∧ μ.1 kP_errand q = ν.1 kM_errand q ∧ μ.1 kP_back q = ν.1 kM_comesBack q ∧ μ.1 kP_reached q = ν.1 kM_wasThere q ∧ μ.1 kP_done q = ν.1 kM_isDone q) ∧ in_ 12 (ν.1 kM_where q) ∧ in_ 12 (ν.1 kM_home q) ∧ b01 (ν.1 kM_isStranger q) ∧ in_ 100 (ν.1 kM_worth q) ∧ (ν.1 kM_errand q = -1 ∨ in_ 12 (ν.1 kM_errand q)) ∧ b01 (ν.1 kM_comesBack q) ∧ b01 (ν.1 kM_wasThere q) ∧ b01 (ν.1 kM_isDone q) ∧ (ν.1 kM_errand q = -1 → ν.1 kM_wasThere q = 0 ∧ ν.1 kM_isDone q = 0)) ∧ ivP (ν.1 kM_errand q) (ν.1 kM_where q) (ν.1 kM_wasThere q) (ν.1 kM_isDone q) (ν.1 kM_comesBack q) (ν.1 kM_home q)
/-- what a state behind some LINES is -/
def hGs (ν : m2M) (n p : Nat) (s : m2M × Nat × Nat) : Prop := (n ≤ s.2.1 ∧ s.2.1 ≤ 20 ∧ p ≤ s.2.2 ∧ s.2.2 ≤ 8) ∧ s.1.1 kM 0 = nI s.2.1 ∧ s.1.1 kM 7 = nI s.2.2 ∧ (∀ c j, c ≠ kM → ¬ (66 ≤ c ∧ c ≤ 71 ∧ n ≤ j) → ¬ (72 ≤ c ∧ c ≤ 79 ∧ p ≤ j) → s.1.1 c j = ν.1 c j) ∧ (∀ j, j ≠ 0 → j ≠ 7 → s.1.1 kM j = ν.1 kM j) ∧ s.1.2 = ν.2
def hF (μ μ1 : m2M) (n p : Nat) : Prop := (∀ c j, c ≠ kH → ¬ (9 ≤ c ∧ c ≤ 14 ∧ n ≤ j) → ¬ (16 ≤ c ∧ c ≤ 23 ∧ p ≤ j) → μ1.1 c j = μ.1 c j) ∧ frC μ μ1 ∧ μ1.2 kC_row = μ.2 kC_row
def hL1 (μ1 : m2M) (s : m2M × Nat × Nat) : Prop := (∀ d, d < s.2.1 → eD s.1 μ1 d) ∧ (∀ q, q < s.2.2 → eP s.1 μ1 q) ∧ μ1.1 kH 6 = nI s.2.1 ∧ μ1.1 kH 7 = nI s.2.2
theorem adD_o {ν : m2M} {n1 : Nat} {R : Int32 × Int32 × Int32 × Int32 × Int32} {c j : Nat} (h1 : c ≠ kM) (h2 : ¬ (66 ≤ c ∧ c ≤ 71 ∧ j = n1)) : (adD ν n1 R).1 c j = ν.1 c j := by
  have key : ∀ (X : m2M) (c' : Nat) (x : Int32), 66 ≤ c' ∧ c' ≤ 71 → (m2_si X c' n1 x).1 c j = X.1 c j := by
    intro X c' x hc
    by_cases e : c = c'
    · subst e; exact si_nj _ _ _ (fun z => h2 ⟨hc.1, hc.2, z⟩)
    · rw [si_nc _ _ _ e]
  unfold adD
  rw [si_nc _ _ _ h1, key _ _ _ (by decide), key _ _ _ (by decide), key _ _ _ (by decide), key _ _ _ (by decide), key _ _ _ (by decide), key _ _ _ (by decide)]
theorem adD_k {ν : m2M} {n1 : Nat} {R : Int32 × Int32 × Int32 × Int32 × Int32} {j : Nat} (h : j ≠ 0) : (adD ν n1 R).1 kM j = ν.1 kM j := by
  unfold adD
  rw [si_nj _ _ _ h, si_nc _ _ _ (by decide), si_nc _ _ _ (by decide), si_nc _ _ _ (by decide), si_nc _ _ _ (by decide), si_nc _ _ _ (by decide), si_nc _ _ _ (by decide)]
theorem adD_0 {ν : m2M} {n1 : Nat} {R : Int32 × Int32 × Int32 × Int32 × Int32} : (adD ν n1 R).1 kM 0 = nI (n1 + 1) := si_at _ _ _ _
theorem adD_n {ν : m2M} {n1 : Nat} {R : Int32 × Int32 × Int32 × Int32 × Int32} : (adD ν n1 R).1 kM_doorA n1 = R.1 ∧ (adD ν n1 R).1 kM_doorB n1 = R.2.1 ∧ (adD ν n1 R).1 kM_isOneWay n1 = R.2.2.1 ∧ (adD ν n1 R).1 kM_lets n1 = R.2.2.2.1 ∧ (adD ν n1 R).1 kM_left n1 = R.2.2.2.1 ∧ (adD ν n1 R).1 kM_atNoon n1 = R.2.2.2.2 := by
  unfold adD
  refine ⟨?_, ?_, ?_, ?_, ?_, ?_⟩
  · rw [si_nc _ _ _ (by decide), si_nc _ _ _ (by decide), si_nc _ _ _ (by decide), si_nc _ _ _ (by decide), si_nc _ _ _ (by decide), si_nc _ _ _ (by decide), si_at]
  · rw [si_nc _ _ _ (by decide), si_nc _ _ _ (by decide), si_nc _ _ _ (by decide), si_nc _ _ _ (by decide), si_nc _ _ _ (by decide), si_at]
  · rw [si_nc _ _ _ (by decide), si_nc _ _ _ (by decide), si_nc _ _ _ (by decide), si_nc _ _ _ (by decide), si_at]
  · rw [si_nc _ _ _ (by decide), si_nc _ _ _ (by decide), si_nc _ _ _ (by decide), si_at]
  · rw [si_nc _ _ _ (by decide), si_nc _ _ _ (by decide), si_at]
  · rw [si_nc _ _ _ (by decide), si_at]
theorem adO0_o {ν : m2M} {n1 : Nat} {s : Int32} {R : Int32 × Int32 × Int32 × Int32} {c j : Nat} (h2 : ¬ (72 ≤ c ∧ c ≤ 79 ∧ j = n1)) : (adO0 ν n1 s R).1 c j = ν.1 c j := by
  have key : ∀ (X : m2M) (c' : Nat) (x : Int32), 72 ≤ c' ∧ c' ≤ 79 → (m2_si X c' n1 x).1 c j = X.1 c j := by
    intro X c' x hc
    by_cases e : c = c'
    · subst e; exact si_nj _ _ _ (fun z => h2 ⟨hc.1, hc.2, z⟩)
    · rw [si_nc _ _ _ e]
  unfold adO0
  rw [key _ _ _ (by decide), key _ _ _ (by decide), key _ _ _ (by decide), key _ _ _ (by decide), key _ _ _ (by decide), key _ _ _ (by decide), key _ _ _ (by decide), key _ _ _ (by decide)]
theorem adO_o {ν : m2M} {n1 : Nat} {s : Int32} {R : Int32 × Int32 × Int32 × Int32} {c j : Nat} (h1 : c ≠ kM) (h2 : ¬ (72 ≤ c ∧ c ≤ 79 ∧ j = n1)) : (adO ν n1 s R).1 c j = ν.1 c j := by
  have key : ∀ (X : m2M) (c' : Nat) (x : Int32), 72 ≤ c' ∧ c' ≤ 79 → (m2_si X c' n1 x).1 c j = X.1 c j := by
    intro X c' x hc
    by_cases e : c = c'
    · subst e; exact si_nj _ _ _ (fun z => h2 ⟨hc.1, hc.2, z⟩)
    · rw [si_nc _ _ _ e]
  unfold adO gA
  rw [si_nc _ _ _ h1, key _ _ _ (by decide), key _ _ _ (by decide), key _ _ _ (by decide), adO0_o h2]
theorem adO_k {ν : m2M} {n1 : Nat} {s : Int32} {R : Int32 × Int32 × Int32 × Int32} {j : Nat} (h : j ≠ 7) : (adO ν n1 s R).1 kM j = ν.1 kM j := by
  unfold adO
  rw [si_nj _ _ _ h, gA_k, adO0_k]
theorem adO_7 {ν : m2M} {n1 : Nat} {s : Int32} {R : Int32 × Int32 × Int32 × Int32} : (adO ν n1 s R).1 kM 7 = nI (n1 + 1) := si_at _ _ _ _
theorem adO0_n {ν : m2M} {n1 : Nat} {s : Int32} {R : Int32 × Int32 × Int32 × Int32} : (adO0 ν n1 s R).1 kM_where n1 = R.1 ∧ (adO0 ν n1 s R).1 kM_home n1 = R.1 ∧ (adO0 ν n1 s R).1 kM_isStranger n1 = s ∧ (adO0 ν n1 s R).1 kM_worth n1 = R.2.1 ∧ (adO0 ν n1 s R).1 kM_errand n1 = R.2.2.1 ∧ (adO0 ν n1 s R).1 kM_comesBack n1 = R.2.2.2 ∧ (adO0 ν n1 s R).1 kM_wasThere n1 = 0 ∧ (adO0 ν n1 s R).1 kM_isDone n1 = 0 := by
  unfold adO0
  refine ⟨?_, ?_, ?_, ?_, ?_, ?_, ?_, ?_⟩
  · rw [si_nc _ _ _ (by decide), si_nc _ _ _ (by decide), si_nc _ _ _ (by decide), si_nc _ _ _ (by decide), si_nc _ _ _ (by decide), si_nc _ _ _ (by decide), si_nc _ _ _ (by decide), si_at]
  · rw [si_nc _ _ _ (by decide), si_nc _ _ _ (by decide), si_nc _ _ _ (by decide), si_nc _ _ _ (by decide), si_nc _ _ _ (by decide), si_nc _ _ _ (by decide), si_at]
  · rw [si_nc _ _ _ (by decide), si_nc _ _ _ (by decide), si_nc _ _ _ (by decide), si_nc _ _ _ (by decide), si_nc _ _ _ (by decide), si_at]
  · rw [si_nc _ _ _ (by decide), si_nc _ _ _ (by decide), si_nc _ _ _ (by decide), si_nc _ _ _ (by decide), si_at]
  · rw [si_nc _ _ _ (by decide), si_nc _ _ _ (by decide), si_nc _ _ _ (by decide), si_at]
  · rw [si_nc _ _ _ (by decide), si_nc _ _ _ (by decide), si_at]
  · rw [si_nc _ _ _ (by decide), si_at]
  · rw [si_at]
theorem adO_n {ν : m2M} {n1 : Nat} {s : Int32} {R : Int32 × Int32 × Int32 × Int32} : (adO ν n1 s R).1 kM_where n1 = R.1 ∧ (adO ν n1 s R).1 kM_home n1 = R.1 ∧ (adO ν n1 s R).1 kM_isStranger n1 = s ∧ (adO ν n1 s R).1 kM_worth n1 = R.2.1 ∧ (adO ν n1 s R).1 kM_errand n1 = R.2.2.1 ∧ (adO ν n1 s R).1 kM_comesBack n1 = R.2.2.2 ∧ (adO ν n1 s R).1 kM_wasThere n1 = (if R.2.2.1 = R.1 then 1 else 0) ∧ (adO ν n1 s R).1 kM_isDone n1 = (if R.2.2.1 = R.1 then 1 else 0) := by
  obtain ⟨a1, a2, a3, a4, a5, a6, a7, a8⟩ := adO0_n (ν := ν) (n1 := n1) (s := s) (R := R)
  have t : gRt (adO0 ν n1 s R) n1 R.1 = if R.2.2.1 = R.1 then 1 else 0 := by unfold gRt; rw [a5, a7]
  have d : gDn (adO0 ν n1 s R) n1 R.1 = if R.2.2.1 = R.1 then 1 else 0 := by
    unfold gDn
    rw [t, a8, a2]
    by_cases z : R.2.2.1 = R.1
    · rw [if_pos z, if_pos ⟨rfl, Or.inr rfl⟩]
    · rw [if_neg z, if_neg (fun w => absurd w.1 (by decide))]
  unfold adO gA
  refine ⟨?_, ?_, ?_, ?_, ?_, ?_, ?_, ?_⟩
  · rw [si_nc _ _ _ (by decide), si_nc _ _ _ (by decide), si_nc _ _ _ (by decide), si_at]
  · rw [si_nc _ _ _ (by decide), si_nc _ _ _ (by decide), si_nc _ _ _ (by decide), si_nc _ _ _ (by decide)]; exact a2
  · rw [si_nc _ _ _ (by decide), si_nc _ _ _ (by decide), si_nc _ _ _ (by decide), si_nc _ _ _ (by decide)]; exact a3
  · rw [si_nc _ _ _ (by decide), si_nc _ _ _ (by decide), si_nc _ _ _ (by decide), si_nc _ _ _ (by decide)]; exact a4
  · rw [si_nc _ _ _ (by decide), si_nc _ _ _ (by decide), si_nc _ _ _ (by decide), si_nc _ _ _ (by decide)]; exact a5
  · rw [si_nc _ _ _ (by decide), si_nc _ _ _ (by decide), si_nc _ _ _ (by decide), si_nc _ _ _ (by decide)]; exact a6
  · rw [si_nc _ _ _ (by decide), si_nc _ _ _ (by decide), si_at]; exact t
  · rw [si_nc _ _ _ (by decide), si_at]; exact d
theorem hG_L {ν : m2M} {n p a k : Nat} {g : Nat → Int32} {s : m2M × Nat × Nat} (h : hGs ν n p s) (hr : (rdL (cp_hT 76 g k) a s).1 = true) : hGs ν n p (rdL (cp_hT 76 g k) a s).2.2 := by
  obtain ⟨⟨a1, a2, a3, a4⟩, a5, a6, a7, a8, a9⟩ := h
  unfold rdL at hr ⊢
  by_cases z1 : cp_hT 76 g k a = 100 ∧ s.2.1 < 20
  · rw [if_pos z1] at hr ⊢
    by_cases z2 : (rdD (cp_hT 76 g k) (a + 1)).1 = true
    · rw [if_pos z2]
      refine ⟨⟨by simp only; omega, by simp only; omega, a3, a4⟩, adD_0, (adD_k (by decide)).trans a6, fun c j h1 h2 h3 => ?_, fun j h1 h2 => (adD_k h1).trans (a8 j h1 h2), a9⟩
      show (adD s.1 s.2.1 _).1 c j = _
      rw [adD_o h1 (fun z => h2 ⟨z.1, z.2.1, by omega⟩)]
      exact a7 c j h1 h2 h3
    · rw [if_neg z2] at hr; cases hr
  · rw [if_neg z1] at hr ⊢
    by_cases z3 : (cp_hT 76 g k a = 112 ∨ cp_hT 76 g k a = 115) ∧ s.2.2 < 8
    · rw [if_pos z3] at hr ⊢
      by_cases z2 : (rdO (cp_hT 76 g k) (a + 1)).1 = true
      · rw [if_pos z2]
        refine ⟨⟨a1, a2, by simp only; omega, by simp only; omega⟩, (adO_k (by decide)).trans a5, adO_7, fun c j h1 h2 h3 => ?_, fun j h1 h2 => (adO_k h2).trans (a8 j h1 h2), a9⟩
        show (adO s.1 s.2.2 _ _).1 c j = _
        rw [adO_o h1 (fun z => h3 ⟨z.1, z.2.1, by omega⟩)]
        exact a7 c j h1 h2 h3
      · rw [if_neg z2] at hr; cases hr
    · rw [if_neg z3] at hr; cases hr
