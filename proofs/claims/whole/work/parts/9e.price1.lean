/-! price: signs that wait, against the reference's descent -/
def rk (x : Int32) : Nat := if x = 42 then 3 else if x = 43 then 2 else if x = 45 then 2 else if x = 60 then 1 else if x = 61 then 1 else if x = 62 then 1 else if x = 256 then 4 else 0
def ngL (l : List Int32) : List Int32 := l.map (fun x => -x)
theorem ngL_app (a b : List Int32) : ngL (a ++ b) = ngL a ++ ngL b := List.map_append
def tLt (r : Nat) (ws : List Int32) : Prop := match ws with
  | [] => True
  | x :: _ => rk x < r
theorem tLt.mono {r r' : Nat} {ws : List Int32} (h : tLt r ws) (hr : r ≤ r') : tLt r' ws := by
  cases ws with
  | nil => exact trivial
  | cons x l => exact Nat.lt_of_lt_of_le h hr
def upB (cm : Nat → Bool) (e : Nat) (b : Bool) : Nat → Bool := fun j => if j = e then b else cm j
def rkA (r : Nat) (pd : List Int32) : Prop := ∀ x, x ∈ pd → r ≤ rk x
theorem rkA.mono {r r' : Nat} {pd : List Int32} (h : rkA r pd) (hr : r' ≤ r) : rkA r' pd := fun x hx => Nat.le_trans hr (h x hx)
theorem rkA.snoc {r : Nat} {pd : List Int32} {c : Int32} (h : rkA r pd) (hc : r ≤ rk c) : rkA r (pd ++ [c]) := fun x hx => by
  rcases List.mem_append.mp hx with z | z
  · exact h x z
  · have : x = c := by simpa using z
    rw [this]; exact hc
theorem rkA.nil {r : Nat} : rkA r [] := fun x hx => by simp at hx
/-- what the class's reading does, sign by sign -/
def rdS (g : Nat → Int32) (k : Nat) (K : Nat → List Int32 → List Int32 → Nat → (Nat → Bool) → Bool → Prop) (Fp : Nat → Prop) : Prop :=
  (∀ a o ws e cm, cp_dg (cp_h g k a) = true → K (cp_n g k 3 a 0).2 (o ++ [(cp_n g k 3 a 0).1]) ws e cm false → K a o ws e cm true) ∧
  (∀ a o ws e cm, cp_nm (cp_h g k a) ≠ 0 → K (a + 1) (o ++ [cp_nm (cp_h g k a)]) ws e cm false → K a o ws e cm true) ∧
  (∀ a o ws e cm, cp_h g k a = 45 → K (a + 1) o (256 :: ws) e cm true → K a o ws e cm true) ∧
  (∀ a o ws e cm, cp_h g k a = 40 → e < 4 → K (a + 1) o (40 :: ws) (e + 1) (upB cm (e + 1) false) true → K a o ws e cm true) ∧
  (∀ a o ws e cm, ¬ cp_h g k a = 45 → ¬ (cp_h g k a = 40 ∧ e < 4) → ¬ cp_dg (cp_h g k a) = true → cp_nm (cp_h g k a) = 0 → Fp a → K a o ws e cm true) ∧
  (∀ a o pd ws e cm, cp_h g k a = 41 → e < 4 → rkA 1 pd → K (a + 1) (o ++ ngL pd) ws e cm false → K a o (pd ++ 40 :: ws) (e + 1) cm false) ∧
  (∀ a o pd ws e cm, (rk (cp_h g k a) = 1 ∨ rk (cp_h g k a) = 2 ∨ rk (cp_h g k a) = 3) → (rk (cp_h g k a) = 1 → cm e = false) → e ≤ 4 → rkA (rk (cp_h g k a)) pd → tLt (rk (cp_h g k a)) ws → K (a + 1) (o ++ ngL pd) (cp_h g k a :: ws) e (if rk (cp_h g k a) = 1 then upB cm e true else cm) true → K a o (pd ++ ws) e cm false) ∧
  (∀ a o ws e cm, cp_h g k a ≠ 41 → (rk (cp_h g k a) = 0 ∨ (rk (cp_h g k a) = 1 ∧ cm (e + 1) = true)) → e < 4 → Fp a → K a o ws (e + 1) cm false)
def nj3 (c : Int32) : Prop := c ≠ 42 ∧ c ≠ 43 ∧ c ≠ 45
def nj1 (c : Int32) : Prop := c ≠ 60 ∧ c ≠ 61 ∧ c ≠ 62
theorem rk_0 {c : Int32} (h1 : nj3 c) (h2 : nj1 c) (h3 : c ≠ 256) : rk c = 0 := by
  obtain ⟨b1, b2, b3⟩ := h1
  obtain ⟨b4, b5, b6⟩ := h2
  unfold rk
  rw [if_neg b1, if_neg b2, if_neg b3, if_neg b4, if_neg b5, if_neg b6, if_neg h3]
theorem rk_1 {c : Int32} (h : ¬ nj1 c) : rk c = 1 := by
  by_cases h1 : c = 60
  · rw [h1]; decide
  · by_cases h2 : c = 61
    · rw [h2]; decide
    · by_cases h3 : c = 62
      · rw [h3]; decide
      · exact absurd ⟨h1, h2, h3⟩ h
set_option maxHeartbeats 4000000 in
theorem cp_sim {g : Nat → Int32} {k : Nat} {K : Nat → List Int32 → List Int32 → Nat → (Nat → Bool) → Bool → Prop} {Fp : Nat → Prop} (hR : rdS g k K Fp) (h256 : ∀ a, cp_h g k a ≠ 256) : ∀ f : Nat,
    (∀ e a o ws cm, cp_Bd 0 a ≤ f → a ≤ 40 → e ≤ 4 → tLt 1 ws → cm e = false → (∀ o' pd cm', (cp g k f 0 e a).1 = true → o' ++ ngL pd = o ++ (cp g k f 0 e a).2.2 → rkA 1 pd → nj3 (cp_h g k (cp g k f 0 e a).2.1) → (cm' e = true ∨ nj1 (cp_h g k (cp g k f 0 e a).2.1)) → (∀ j, j < e → cm' j = cm j) → K (cp g k f 0 e a).2.1 o' (pd ++ ws) e cm' false) → ((cp g k f 0 e a).1 = false → Fp (cp g k f 0 e a).2.1) → K a o ws e cm true) ∧
    (∀ e a o ws cm, cp_Bd 1 a ≤ f → a ≤ 40 → e ≤ 4 → tLt 2 ws → (∀ o' pd cm', (cp g k f 1 e a).1 = true → o' ++ ngL pd = o ++ (cp g k f 1 e a).2.2 → rkA 2 pd → nj3 (cp_h g k (cp g k f 1 e a).2.1) → (∀ j, j ≤ e → cm' j = cm j) → K (cp g k f 1 e a).2.1 o' (pd ++ ws) e cm' false) → ((cp g k f 1 e a).1 = false → Fp (cp g k f 1 e a).2.1) → K a o ws e cm true) ∧
    (∀ e a o ws cm, cp_Bd 2 a ≤ f → a ≤ 40 → e ≤ 4 → tLt 3 ws → (∀ o' pd cm', (cp g k f 2 e a).1 = true → o' ++ ngL pd = o ++ (cp g k f 2 e a).2.2 → rkA 3 pd → cp_h g k (cp g k f 2 e a).2.1 ≠ 42 → (∀ j, j ≤ e → cm' j = cm j) → K (cp g k f 2 e a).2.1 o' (pd ++ ws) e cm' false) → ((cp g k f 2 e a).1 = false → Fp (cp g k f 2 e a).2.1) → K a o ws e cm true) ∧
    (∀ e a o ws cm, cp_Bd 3 a ≤ f → a ≤ 40 → e ≤ 4 → (∀ o' pd cm', (cp g k f 3 e a).1 = true → o' ++ ngL pd = o ++ (cp g k f 3 e a).2.2 → rkA 4 pd → (∀ j, j ≤ e → cm' j = cm j) → K (cp g k f 3 e a).2.1 o' (pd ++ ws) e cm' false) → ((cp g k f 3 e a).1 = false → Fp (cp g k f 3 e a).2.1) → K a o ws e cm true) ∧
    (∀ e a o pd ws cm, cp_Bd 4 a ≤ f → a ≤ 40 → e ≤ 4 → rkA 2 pd → tLt 2 ws → cp_h g k a ≠ 42 → (∀ o' pd' cm', (cp g k f 4 e a).1 = true → o' ++ ngL pd' = o ++ ngL pd ++ (cp g k f 4 e a).2.2 → rkA 2 pd' → nj3 (cp_h g k (cp g k f 4 e a).2.1) → (∀ j, j ≤ e → cm' j = cm j) → K (cp g k f 4 e a).2.1 o' (pd' ++ ws) e cm' false) → ((cp g k f 4 e a).1 = false → Fp (cp g k f 4 e a).2.1) → K a o (pd ++ ws) e cm false) ∧
    (∀ e a o pd ws cm, cp_Bd 5 a ≤ f → a ≤ 40 → e ≤ 4 → rkA 3 pd → tLt 3 ws → (∀ o' pd' cm', (cp g k f 5 e a).1 = true → o' ++ ngL pd' = o ++ ngL pd ++ (cp g k f 5 e a).2.2 → rkA 3 pd' → cp_h g k (cp g k f 5 e a).2.1 ≠ 42 → (∀ j, j ≤ e → cm' j = cm j) → K (cp g k f 5 e a).2.1 o' (pd' ++ ws) e cm' false) → ((cp g k f 5 e a).1 = false → Fp (cp g k f 5 e a).2.1) → K a o (pd ++ ws) e cm false) := by
  obtain ⟨rN, rM, rU, rO, rF, rC, rJ, rX⟩ := hR
  have k42 : rk 42 = 3 := by decide
  have k43 : rk 43 = 2 := by decide
  have k45 : rk 45 = 2 := by decide
  have k60 : rk 60 = 1 := by decide
  have k61 : rk 61 = 1 := by decide
  have k62 : rk 62 = 1 := by decide
  have k256 : rk 256 = 4 := by decide
  have k40 : rk 40 = 0 := by decide
  intro f
  induction f with
  | zero =>
    have no : ∀ m a, a ≤ 40 → ¬ cp_Bd m a ≤ 0 := fun m a ha hb => by
      unfold cp_Bd at hb
      omega
    exact ⟨fun e a o ws cm hf ha => absurd hf (no 0 a ha), fun e a o ws cm hf ha => absurd hf (no 1 a ha), fun e a o ws cm hf ha => absurd hf (no 2 a ha), fun e a o ws cm hf ha => absurd hf (no 3 a ha), fun e a o pd ws cm hf ha => absurd hf (no 4 a ha), fun e a o pd ws cm hf ha => absurd hf (no 5 a ha)⟩
  | succ f ih =>
    obtain ⟨i0, i1, i2, i3, i4, i5⟩ := ih
    have B : ∀ m a, cp_Bd m a = 8 * (41 - a) + cp_rk m := fun _ _ => rfl
    have r0 : cp_rk 0 = 7 := rfl
    have r1 : cp_rk 1 = 6 := rfl
    have r2 : cp_rk 2 = 5 := rfl
    have r3 : cp_rk 3 = 4 := rfl
    have r4 : cp_rk 4 = 7 := rfl
    have r5 : cp_rk 5 = 7 := rfl
    refine ⟨?_, ?_, ?_, ?_, ?_, ?_⟩
    · intro e a o ws cm hf ha he hw hcm hs hx
      rw [B, r0] at hf
      unfold cp at hs hx
      simp only at hs hx
      refine i1 e a o ws cm (by rw [B, r1]; omega) ha he (hw.mono (by decide)) (fun o1 pd1 cm1 t1 q1 p1 j1 c1 => ?_) (fun t1 => ?_)
      · obtain ⟨z1, z2, z3⟩ := cp_pos f 1 e a ha (by decide) t1
        have z3 := z3 (by decide)
        rw [if_pos t1] at hs hx
        by_cases y : cp_h g k (cp g k f 1 e a).2.1 = 60 ∨ cp_h g k (cp g k f 1 e a).2.1 = 62 ∨ cp_h g k (cp g k f 1 e a).2.1 = 61
        · rw [if_pos y] at hs hx
          have hl : (cp g k f 1 e a).2.1 < 40 := by rcases y with w | w | w <;> exact h_lt w (by decide)
          have y1 : rk (cp_h g k (cp g k f 1 e a).2.1) = 1 := by rcases y with w | w | w <;> rw [w] <;> assumption
          refine rJ _ o1 pd1 ws e cm1 (Or.inl y1) (fun _ => by rw [c1 e (Nat.le_refl e)]; exact hcm) he (by rw [y1]; exact p1.mono (by decide)) (by rw [y1]; exact hw) ?_
          rw [if_pos y1]
          refine i1 e _ _ (cp_h g k (cp g k f 1 e a).2.1 :: ws) _ (by rw [B, r1]; omega) (by omega) he (by show rk _ < 2; omega) (fun o2 pd2 cm2 t2 q2 p2 j2 c2 => ?_) (fun t2 => hx t2)
          have := hs o2 (pd2 ++ [cp_h g k (cp g k f 1 e a).2.1]) cm2 t2 ?_ ((p2.mono (by decide)).snoc (by omega)) j2 (Or.inl ?_) (fun j hj => ?_)
          · have e1 : pd2 ++ [cp_h g k (cp g k f 1 e a).2.1] ++ ws = pd2 ++ cp_h g k (cp g k f 1 e a).2.1 :: ws := by simp
            rw [e1] at this
            exact this
          · rw [ngL_app, ← List.append_assoc, q2, q1, List.append_assoc, List.append_assoc, List.append_assoc]
            rfl
          · rw [c2 e (Nat.le_refl e)]; unfold upB; rw [if_pos rfl]
          · rw [c2 j (by omega)]; unfold upB; rw [if_neg (by omega)]; exact c1 j (by omega)
        · rw [if_neg y] at hs hx
          exact hs o1 pd1 cm1 t1 q1 (p1.mono (by decide)) j1 (Or.inr ⟨fun w => y (Or.inl w), fun w => y (Or.inr (Or.inr w)), fun w => y (Or.inr (Or.inl w))⟩) (fun j hj => c1 j (by omega))
      · have nt : ¬ (cp g k f 1 e a).1 = true := by rw [t1]; decide
        rw [if_neg nt] at hx
        exact hx t1
    · intro e a o ws cm hf ha he hw hs hx
      rw [B, r1] at hf
      unfold cp at hs hx
      simp only at hs hx
      refine i2 e a o ws cm (by rw [B, r2]; omega) ha he (hw.mono (by decide)) (fun o1 pd1 cm1 t1 q1 p1 j1 c1 => ?_) (fun t1 => ?_)
      · obtain ⟨z1, z2, z3⟩ := cp_pos f 2 e a ha (by decide) t1
        have z3 := z3 (by decide)
        rw [if_pos t1] at hs hx
        refine i4 e _ o1 pd1 ws cm1 (by rw [B, r4]; omega) z1 he (p1.mono (by decide)) hw j1 (fun o2 pd2 cm2 t2 q2 p2 j2 c2 => ?_) (fun t2 => hx t2)
        exact hs o2 pd2 cm2 t2 (by rw [q2, q1, List.append_assoc]) p2 j2 (fun j hj => (c2 j hj).trans (c1 j hj))
      · have nt : ¬ (cp g k f 2 e a).1 = true := by rw [t1]; decide
        rw [if_neg nt] at hx
        exact hx t1
    · intro e a o ws cm hf ha he hw hs hx
      rw [B, r2] at hf
      unfold cp at hs hx
      simp only at hs hx
      refine i3 e a o ws cm (by rw [B, r3]; omega) ha he (fun o1 pd1 cm1 t1 q1 p1 c1 => ?_) (fun t1 => ?_)
      · obtain ⟨z1, z2, z3⟩ := cp_pos f 3 e a ha (by decide) t1
        have z3 := z3 (by decide)
        rw [if_pos t1] at hs hx
        refine i5 e _ o1 pd1 ws cm1 (by rw [B, r5]; omega) z1 he (p1.mono (by decide)) hw (fun o2 pd2 cm2 t2 q2 p2 j2 c2 => ?_) (fun t2 => hx t2)
        exact hs o2 pd2 cm2 t2 (by rw [q2, q1, List.append_assoc]) p2 j2 (fun j hj => (c2 j hj).trans (c1 j hj))
      · have nt : ¬ (cp g k f 3 e a).1 = true := by rw [t1]; decide
        rw [if_neg nt] at hx
        exact hx t1
    · intro e a o ws cm hf ha he hs hx
      rw [B, r3] at hf
      unfold cp at hs hx
      simp only at hs hx
      by_cases y1 : cp_h g k a = 45
      · rw [if_pos y1] at hs hx
        have hl : a < 40 := h_lt y1 (by decide)
        refine rU a o ws e cm y1 ?_
        refine i3 e (a + 1) o (256 :: ws) cm (by rw [B, r3]; omega) (by omega) he (fun o1 pd1 cm1 t1 q1 p1 c1 => ?_) (fun t1 => hx t1)
        have := hs o1 (pd1 ++ [256]) cm1 t1 ?_ (p1.snoc (by omega)) c1
        · rw [List.append_assoc] at this
          exact this
        · rw [ngL_app, ← List.append_assoc, q1, List.append_assoc]
          rfl
      · rw [if_neg y1] at hs hx
        by_cases y2 : cp_h g k a = 40 ∧ e < 4
        · rw [if_pos y2] at hs hx
          have hl : a < 40 := h_lt y2.1 (by decide)
          refine rO a o ws e cm y2.1 y2.2 ?_
          refine i0 (e + 1) (a + 1) o (40 :: ws) _ (by rw [B, r0]; omega) (by omega) (by omega) (by show rk 40 < 1; omega) (by unfold upB; rw [if_pos rfl]) (fun o1 pd1 cm1 t1 q1 p1 j1 n1 c1 => ?_) (fun t1 => ?_)
          · rw [if_pos t1] at hs hx
            have c2 : ∀ j, j ≤ e → cm1 j = cm j := fun j hj => by
              rw [c1 j (by omega)]
              unfold upB
              rw [if_neg (by omega)]
            by_cases y3 : cp_h g k (cp g k f 0 (e + 1) (a + 1)).2.1 = 41
            · rw [if_pos y3] at hs
              refine rC _ o1 pd1 ws e cm1 y3 y2.2 p1 ?_
              rw [q1]
              exact hs (o ++ (cp g k f 0 (e + 1) (a + 1)).2.2) [] cm1 rfl (by show _ ++ [] = _; rw [List.append_nil]) rkA.nil c2
            · rw [if_neg y3] at hx
              refine rX _ o1 _ e cm1 y3 ?_ y2.2 (hx rfl)
              by_cases y4 : nj1 (cp_h g k (cp g k f 0 (e + 1) (a + 1)).2.1)
              · exact Or.inl (rk_0 j1 y4 (h256 _))
              · exact Or.inr ⟨rk_1 y4, n1.resolve_right y4⟩
          · have nt : ¬ (cp g k f 0 (e + 1) (a + 1)).1 = true := by rw [t1]; decide
            rw [if_neg nt] at hx
            exact hx t1
        · rw [if_neg y2] at hs hx
          by_cases y3 : cp_dg (cp_h g k a) = true
          · rw [if_pos y3] at hs hx
            refine rN a o ws e cm y3 ?_
            exact hs (o ++ [(cp_n g k 3 a 0).1]) [] cm rfl (by show _ ++ [] = _; rw [List.append_nil]) rkA.nil (fun _ _ => rfl)
          · rw [if_neg y3] at hs hx
            by_cases y4 : cp_nm (cp_h g k a) = 0
            · rw [if_pos y4] at hx
              exact rF a o ws e cm y1 y2 y3 y4 (hx rfl)
            · rw [if_neg y4] at hs
              refine rM a o ws e cm y4 ?_
              exact hs (o ++ [cp_nm (cp_h g k a)]) [] cm rfl (by show _ ++ [] = _; rw [List.append_nil]) rkA.nil (fun _ _ => rfl)
    · intro e a o pd ws cm hf ha he hp hw h42 hs hx
      rw [B, r4] at hf
      unfold cp at hs hx
      simp only at hs hx
      by_cases y : cp_h g k a = 43 ∨ cp_h g k a = 45
      · rw [if_pos y] at hs hx
        have hl : a < 40 := by rcases y with w | w <;> exact h_lt w (by decide)
        have y1 : rk (cp_h g k a) = 2 := by rcases y with w | w <;> rw [w] <;> assumption
        refine rJ a o pd ws e cm (Or.inr (Or.inl y1)) (fun w => by omega) he (by rw [y1]; exact hp) (by rw [y1]; exact hw) ?_
        rw [if_neg (by omega)]
        refine i2 e (a + 1) _ (cp_h g k a :: ws) cm (by rw [B, r2]; omega) (by omega) he (by show rk _ < 3; omega) (fun o1 pd1 cm1 t1 q1 p1 j1 c1 => ?_) (fun t1 => ?_)
        · obtain ⟨z1, z2, z3⟩ := cp_pos f 2 e (a + 1) (by omega) (by decide) t1
          rw [if_pos t1] at hs hx
          have := i4 e _ o1 (pd1 ++ [cp_h g k a]) ws cm1 (by rw [B, r4]; omega) z1 he ((p1.mono (by decide)).snoc (by omega)) hw j1 (fun o2 pd2 cm2 t2 q2 p2 j2 c2 => ?_) (fun t2 => hx t2)
          · rw [List.append_assoc] at this
            exact this
          · refine hs o2 pd2 cm2 t2 ?_ p2 j2 (fun j hj => (c2 j hj).trans (c1 j hj))
            rw [q2, ngL_app, ← List.append_assoc, q1]
            simp only [List.append_assoc]
            rfl
        · have nt : ¬ (cp g k f 2 e (a + 1)).1 = true := by rw [t1]; decide
          rw [if_neg nt] at hx
          exact hx t1
      · rw [if_neg y] at hs
        exact hs o pd cm rfl (by rw [List.append_nil]) hp ⟨h42, fun w => y (Or.inl w), fun w => y (Or.inr w)⟩ (fun _ _ => rfl)
    · intro e a o pd ws cm hf ha he hp hw hs hx
      rw [B, r5] at hf
      unfold cp at hs hx
      simp only at hs hx
      by_cases y : cp_h g k a = 42
      · rw [if_pos y] at hs hx
        have hl : a < 40 := h_lt y (by decide)
        have y1 : rk (cp_h g k a) = 3 := by rw [y]; assumption
        refine rJ a o pd ws e cm (Or.inr (Or.inr y1)) (fun w => by omega) he (by rw [y1]; exact hp) (by rw [y1]; exact hw) ?_
        rw [if_neg (by omega)]
        refine i3 e (a + 1) _ (cp_h g k a :: ws) cm (by rw [B, r3]; omega) (by omega) he (fun o1 pd1 cm1 t1 q1 p1 c1 => ?_) (fun t1 => ?_)
        · obtain ⟨z1, z2, z3⟩ := cp_pos f 3 e (a + 1) (by omega) (by decide) t1
          rw [if_pos t1] at hs hx
          have := i5 e _ o1 (pd1 ++ [cp_h g k a]) ws cm1 (by rw [B, r5]; omega) z1 he ((p1.mono (by decide)).snoc (by omega)) hw (fun o2 pd2 cm2 t2 q2 p2 j2 c2 => ?_) (fun t2 => hx t2)
          · rw [List.append_assoc] at this
            exact this
          · refine hs o2 pd2 cm2 t2 ?_ p2 j2 (fun j hj => (c2 j hj).trans (c1 j hj))
            rw [q2, ngL_app, ← List.append_assoc, q1, y]
            simp only [List.append_assoc]
            rfl
        · have nt : ¬ (cp g k f 3 e (a + 1)).1 = true := by rw [t1]; decide
          rw [if_neg nt] at hx
          exact hx t1
      · rw [if_neg y] at hs
        exact hs o pd cm rfl (by rw [List.append_nil]) hp y (fun _ _ => rfl)
