/-! may -/
theorem wk_snoc {A B : Nat → Nat} {T : Nat → Bool} {C : Nat → Nat} {n d : Nat} (hd : d < n) (hc : C d ≠ 0) {x : Nat} : ∀ {l : List Nat} {u v : Nat}, wk A B T C n u l v → ((A d = v ∧ x = B d) ∨ (A d ≠ v ∧ T d = true ∧ B d = v ∧ x = A d)) → wk A B T C n u (l ++ [d]) x
  | [], u, v, h, e => by
    have h : u = v := h
    subst h
    refine ⟨hd, hc, ?_⟩
    rcases e with ⟨h1, h2⟩ | ⟨h1, h2, h3, h4⟩
    · exact Or.inl ⟨h1, h2.symm⟩
    · exact Or.inr ⟨h1, h2, h3, h4.symm⟩
  | e :: l, u, v, h, q => by
    refine ⟨h.1, h.2.1, ?_⟩
    rcases h.2.2 with ⟨h1, h2⟩ | ⟨h1, h2, h3, h4⟩
    · exact Or.inl ⟨h1, wk_snoc hd hc h2 q⟩
    · exact Or.inr ⟨h1, h2, h3, wk_snoc hd hc h4 q⟩
theorem wk_fin {A B : Nat → Nat} {T : Nat → Bool} {C : Nat → Nat} {n far goal m : Nat} {f : Nat → Nat} (hF : bf_F A B T C n far goal f) (hN : ∀ d, d < n → A d < 12 ∧ B d < 12) (hm : ∀ d, d < n → C d ≤ m) (hfar : 12 * m + 1 ≤ far) : ∀ {l : List Nat} {u : Nat}, wk A B T C n u l goal → f u < far
  | [], u, h => by
    have : u = goal := h
    rw [this, hF.1]
    omega
  | d :: l, u, h => by
    obtain ⟨h1, h2, h3⟩ := h
    have hd := hm d h1
    have nx : ∀ x, x < 12 → f x < far → f u ≤ C d + f x → f u < far := by
      intro x hx h4 h5
      have h6 := bf_bound hF hN hm (f x) x (Nat.le_refl _) h4
      have h7 := bf_rk_self f x (n := 12) hx
      have h8 : bf_rk f x 12 * m ≤ 11 * m := Nat.mul_le_mul_right m (by omega)
      omega
    rcases h3 with ⟨h4, h5⟩ | ⟨h4, h5, h6, h7⟩
    · exact nx (B d) (hN d h1).2 (wk_fin hF hN hm hfar h5) (hF.2.2.1 u (B d) (C d) ⟨d, h1, h2, rfl, Or.inl ⟨h4, rfl⟩⟩)
    · exact nx (A d) (hN d h1).1 (wk_fin hF hN hm hfar h7) (hF.2.2.1 u (A d) (C d) ⟨d, h1, h2, rfl, Or.inr ⟨h5, h6, rfl⟩⟩)
def wkU (ν : m2M) (n : Nat) (U : Nat → Bool) (u : Nat) (l : List Nat) (v : Nat) : Prop := wk (hA ν) (hB ν) (hT ν) (fun d => if U d = true then 1 else 0) n u l v
theorem wyU_iff {ν μ : m2M} {n p frm goal : Nat} {U : Nat → Bool} (h : RLn ν μ n p) (hfrm : frm < 12) (hgoal : goal < 12) : (wyU ν n U frm goal).isSome = true ↔ ∃ l, wkU ν n U frm l goal := by
  constructor
  · intro q
    cases e : wyU ν n U frm goal with
    | none => rw [e] at q; cases q
    | some l => exact ⟨l, (wyU_ok h hfrm hgoal e).1⟩
  · rintro ⟨l, hl⟩
    have hF := wy_F (T := hT ν) (C := fun d => if U d = true then 1 else 0) (far := 268435456) h.N h.AB hgoal
    have := wk_fin (m := 1) hF h.N (fun d _ => by by_cases z : U d = true <;> simp [z]) (by decide) hl
    unfold wyU wy
    rw [if_pos this]
    rfl
/-- a turn over the DOORS -/
def rcs (ν : m2M) (d : Nat) (f : Nat → Bool) : Nat → Bool :=
  let f1 := if hO ν d = true ∧ f (hA ν d) = true then (fun j => f j || decide (j = hB ν d)) else f
  if hO ν d = true ∧ hT ν d = true ∧ f1 (hB ν d) = true then (fun j => f1 j || decide (j = hA ν d)) else f1
def rcp (ν : m2M) : Nat → (Nat → Bool) → Nat → Bool
  | 0, f => f
  | d + 1, f => rcs ν d (rcp ν d f)
theorem rcs_le {ν : m2M} {d : Nat} {f : Nat → Bool} {j : Nat} (h : f j = true) : rcs ν d f j = true := by
  unfold rcs
  by_cases z1 : hO ν d = true ∧ f (hA ν d) = true
  · simp only [if_pos z1]
    by_cases z2 : hO ν d = true ∧ hT ν d = true ∧ (f (hB ν d) || decide True) = true
    · rw [if_pos z2]; simp [h]
    · rw [if_neg z2]; simp [h]
  · simp only [if_neg z1]
    by_cases z2 : hO ν d = true ∧ hT ν d = true ∧ f (hB ν d) = true
    · rw [if_pos z2]; simp [h]
    · rw [if_neg z2]; exact h
theorem rcs_A {ν : m2M} {d : Nat} {f : Nat → Bool} (h1 : hO ν d = true) (h2 : f (hA ν d) = true) : rcs ν d f (hB ν d) = true := by
  unfold rcs
  simp only [if_pos (show hO ν d = true ∧ f (hA ν d) = true from ⟨h1, h2⟩)]
  by_cases z2 : hO ν d = true ∧ hT ν d = true ∧ (f (hB ν d) || decide True) = true
  · rw [if_pos z2]; simp
  · rw [if_neg z2]; simp
theorem rcs_B {ν : m2M} {d : Nat} {f : Nat → Bool} (h1 : hO ν d = true) (h3 : hT ν d = true) (h2 : f (hB ν d) = true) : rcs ν d f (hA ν d) = true := by
  unfold rcs
  by_cases z1 : hO ν d = true ∧ f (hA ν d) = true
  · simp only [if_pos z1]
    rw [if_pos ⟨h1, h3, by simp⟩]
    simp
  · simp only [if_neg z1]
    rw [if_pos ⟨h1, h3, h2⟩]
    simp
theorem rcs_inv {ν : m2M} {d j : Nat} {f : Nat → Bool} (h : rcs ν d f j = true) : f j = true ∨ (hO ν d = true ∧ ((f (hA ν d) = true ∧ j = hB ν d) ∨ (hT ν d = true ∧ f (hB ν d) = true ∧ j = hA ν d) ∨ (f (hA ν d) = true ∧ j = hA ν d))) := by
  unfold rcs at h
  by_cases z1 : hO ν d = true ∧ f (hA ν d) = true
  · simp only [if_pos z1] at h
    by_cases z2 : hO ν d = true ∧ hT ν d = true ∧ (f (hB ν d) || decide True) = true
    · rw [if_pos z2] at h
      simp at h
      rcases h with (h | h) | h
      · exact Or.inl h
      · exact Or.inr ⟨z1.1, Or.inl ⟨z1.2, h⟩⟩
      · exact Or.inr ⟨z1.1, Or.inr (Or.inr ⟨z1.2, h⟩)⟩
    · rw [if_neg z2] at h
      simp at h
      rcases h with h | h
      · exact Or.inl h
      · exact Or.inr ⟨z1.1, Or.inl ⟨z1.2, h⟩⟩
  · simp only [if_neg z1] at h
    by_cases z2 : hO ν d = true ∧ hT ν d = true ∧ f (hB ν d) = true
    · rw [if_pos z2] at h
      simp at h
      rcases h with h | h
      · exact Or.inl h
      · exact Or.inr ⟨z2.1, Or.inr (Or.inl ⟨z2.2.1, z2.2.2, h⟩)⟩
    · rw [if_neg z2] at h
      exact Or.inl h
theorem rcp_le {ν : m2M} {f : Nat → Bool} {j : Nat} (h : f j = true) : ∀ d, rcp ν d f j = true
  | 0 => h
  | d + 1 => rcs_le (rcp_le h d)
theorem rcp_mono {ν : m2M} {f : Nat → Bool} {j d : Nat} (h : rcp ν d f j = true) : ∀ k, rcp ν (d + k) f j = true
  | 0 => h
  | k + 1 => rcs_le (rcp_mono h k)
def rcl (ν : m2M) (n : Nat) (f : Nat → Bool) : Prop := ∀ d, d < n → hO ν d = true → (f (hA ν d) = true → f (hB ν d) = true) ∧ (hT ν d = true → f (hB ν d) = true → f (hA ν d) = true)
theorem rcl_of {ν μ : m2M} {n p : Nat} {f : Nat → Bool} (hR : RLn ν μ n p) (h : ∀ j, j < 12 → rcp ν n f j = true → f j = true) : rcl ν n f := by
  intro d hd ho
  have up : ∀ j, rcp ν (d + 1) f j = true → rcp ν n f j = true := by
    intro j hj
    have := rcp_mono (k := n - (d + 1)) hj
    rw [show d + 1 + (n - (d + 1)) = n by omega] at this
    exact this
  refine ⟨fun z => h _ (hR.N d hd).2 (up _ (rcs_A ho (rcp_le z d))), fun ht z => h _ (hR.N d hd).1 (up _ (rcs_B ho ht (rcp_le z d)))⟩
theorem rcl_wk {ν : m2M} {n : Nat} {f : Nat → Bool} (h : rcl ν n f) : ∀ {l : List Nat} {u v : Nat}, f u = true → wkU ν n (hO ν) u l v → f v = true
  | [], u, v, hu, q => by
    have : u = v := q
    rw [← this]; exact hu
  | d :: l, u, v, hu, q => by
    obtain ⟨h1, h2, h3⟩ := q
    have ho : hO ν d = true := by
      by_cases z : hO ν d = true
      · exact z
      · simp only [if_neg z] at h2; exact absurd rfl h2
    rcases h3 with ⟨h4, h5⟩ | ⟨h4, h5, h6, h7⟩
    · exact rcl_wk h ((h d h1 ho).1 (by rw [h4]; exact hu)) h5
    · exact rcl_wk h ((h d h1 ho).2 h5 (by rw [h6]; exact hu)) h7
def rso (ν : m2M) (n frm : Nat) (f : Nat → Bool) : Prop := f frm = true ∧ ∀ j, f j = true → ∃ l, wkU ν n (hO ν) frm l j
theorem rso_s {ν μ : m2M} {n p frm : Nat} {f : Nat → Bool} (hR : RLn ν μ n p) {d : Nat} (hd : d < n) (h : rso ν n frm f) : rso ν n frm (rcs ν d f) := by
  refine ⟨rcs_le h.1, fun j hj => ?_⟩
  rcases rcs_inv hj with z | ⟨ho, ⟨z, rfl⟩ | ⟨ht, z, rfl⟩ | ⟨z, rfl⟩⟩
  · exact h.2 j z
  · obtain ⟨l, hl⟩ := h.2 _ z
    exact ⟨l ++ [d], wk_snoc hd (by simp only [if_pos ho]; decide) hl (Or.inl ⟨rfl, rfl⟩)⟩
  · obtain ⟨l, hl⟩ := h.2 _ z
    exact ⟨l ++ [d], wk_snoc hd (by simp only [if_pos ho]; decide) hl (Or.inr ⟨hR.AB d hd, ht, rfl, rfl⟩)⟩
  · exact h.2 _ z
theorem rso_p {ν μ : m2M} {n p frm : Nat} {f : Nat → Bool} (hR : RLn ν μ n p) (h : rso ν n frm f) : ∀ d, d ≤ n → rso ν n frm (rcp ν d f)
  | 0, _ => h
  | d + 1, hd => rso_s hR (by omega) (rso_p hR h d (by omega))
def cnb (f : Nat → Bool) : Nat → Nat
  | 0 => 0
  | j + 1 => cnb f j + (if f j = true then 1 else 0)
theorem cnb_le (f : Nat → Bool) : ∀ n, cnb f n ≤ n
  | 0 => Nat.le_refl 0
  | n + 1 => by
    have := cnb_le f n
    unfold cnb
    by_cases z : f n = true
    · rw [if_pos z]; omega
    · rw [if_neg z]; omega
theorem cnb_mono {f g : Nat → Bool} (h : ∀ j, f j = true → g j = true) : ∀ n, cnb f n ≤ cnb g n
  | 0 => Nat.le_refl 0
  | n + 1 => by
    have := cnb_mono h n
    unfold cnb
    by_cases z : f n = true
    · rw [if_pos z, if_pos (h n z)]; omega
    · rw [if_neg z]; omega
theorem cnb_lt {f g : Nat → Bool} (h : ∀ j, f j = true → g j = true) {i : Nat} (h1 : f i = false) (h2 : g i = true) : ∀ {n}, i < n → cnb f n < cnb g n
  | 0, hi => absurd hi (Nat.not_lt_zero i)
  | n + 1, hi => by
    unfold cnb
    by_cases e : i = n
    · subst e
      have := cnb_mono h i
      rw [if_neg (by rw [h1]; decide), if_pos h2]
      omega
    · have := cnb_lt h h1 h2 (n := n) (by omega)
      by_cases z : f n = true
      · rw [if_pos z, if_pos (h n z)]; omega
      · rw [if_neg z]; omega
theorem hasB {f : Nat → Bool} {a : Nat} (ha : a < 12) : fX11_hasBit (bts f 12) (nI a) = 1 ↔ f a = true := by
  rw [hasBit_get (by omega), bts_get f a (by decide)]
  simp [ha]
theorem S_reach {D n p frm : Nat} (hD : 1 ≤ D) (ν μ : m2M) (hR : RLn ν μ n p) (hfrm : frm < 12) : m2_MT D yX8_reach cX8_reach 6 (some .int) [.ref kR, .int (nI frm)] μ (fun r μ' => r = some (.int (bts (fun r => (wyU ν n (hO ν) frm r).isSome) 12)) ∧ μ' = μ) := by
  obtain ⟨D, rfl⟩ : ∃ E, D = E + 1 := ⟨D - 1, by omega⟩
  have hn := hR.n20
  refine m2_MT.intro (ls := [.ref kR, .int (nI frm), .null, .null, .null, .null]) (by decide +kernel) rfl (ble rfl) (fun κ hk => ?_)
  refine B_X8_reach_0 hk ?_
  rw [bts_one (n := 12) (by decide) hfrm]
  have fin : ∀ f : Nat → Bool, rso ν n frm f → rcl ν n f → bts f 12 = bts (fun r => (wyU ν n (hO ν) frm r).isSome) 12 := by
    intro f h1 h2
    refine bts_congr (fun i hi => ?_)
    rw [Bool.eq_iff_iff, wyU_iff hR hfrm hi]
    exact ⟨h1.2 i, fun ⟨l, hl⟩ => rcl_wk h2 h1.1 hl⟩
  -- a pass over the DOORS
  have pass : ∀ (f : Nat → Bool) (v3 v4 : Int32), (∀ v, v = bts (rcp ν n f) 12 → κ 9 [.ref kR, .int (nI frm), .int v, .int v3, .int (v4 + 1), .null] [] μ) → κ 26 [.ref kR, .int (nI frm), .int (bts f 12), .int v3, .int v4, .int 0] [] μ := by
    intro f v3 v4 kk
    refine dn (n := n) (G := fun i => κ 26 [.ref kR, .int (nI frm), .int (bts (rcp ν i f) 12), .int v3, .int v4, .int (nI i)] [] μ) ?_ (fun i hi ih => ?_)
    · exact B_X8_reach_26 hk (Nat.zero_le _) ⟨fun _ => kk _ rfl, fun z => absurd (by rw [hR.1.1]; exact nI_le (Nat.le_refl n) (by omega)) z⟩
    · obtain ⟨a1, a2, a3, a4, a5, a6⟩ := hR.cg.2.2 i hi
      have aL := hR.cl i hi
      refine B_X8_reach_26 hk (Nat.zero_le _) ⟨fun z => absurd (by rw [hR.1.1] at z; exact z) (nI_ge hi (by omega)), fun _ => ⟨vp_in_nI (by omega) (by decide), ?_⟩⟩
      rw [nI_clamp (by omega), aL.1, a1, a3]
      have step83 : ∀ g : Nat → Bool, (hO ν i = true ∧ rcp ν i f (hA ν i) = true → g = fun j => rcp ν i f j || decide (j = hB ν i)) → (¬ (hO ν i = true ∧ rcp ν i f (hA ν i) = true) → g = rcp ν i f) → κ 83 [.ref kR, .int (nI frm), .int (bts g 12), .int v3, .int v4, .int (nI i)] [] μ := by
        intro g g1 g2
        have eg : (if hO ν i = true ∧ rcp ν i f (hA ν i) = true then (fun j => rcp ν i f j || decide (j = hB ν i)) else rcp ν i f) = g := by
          by_cases z : hO ν i = true ∧ rcp ν i f (hA ν i) = true
          · rw [if_pos z, g1 z]
          · rw [if_neg z, g2 z]
        have es : rcp ν (i + 1) f = if hO ν i = true ∧ hT ν i = true ∧ g (hB ν i) = true then (fun j => g j || decide (j = hA ν i)) else g := by
          show rcs ν i (rcp ν i f) = _
          unfold rcs
          simp only [eg]
        have k141 : ∀ v, v = bts (rcp ν (i + 1) f) 12 → κ 141 [.ref kR, .int (nI frm), .int v, .int v3, .int v4, .int (nI i)] [] μ := by
          rintro v rfl
          refine B_X8_reach_141 hk ?_
          rw [nI_1]
          exact ih
        refine B_X8_reach_83 hk (Nat.zero_le _) ⟨vp_in_nI (by omega) (by decide), ?_⟩
        rw [nI_clamp (by omega), aL.1, a1, a3, a6]
        refine ⟨fun z => k141 _ ?_, fun z => ⟨fun z2 => k141 _ ?_, fun z2 => ⟨fun z3 => k141 _ ?_, fun z3 => k141 _ ?_⟩⟩⟩
        · rw [es, if_neg]
          rintro ⟨w, _⟩
          have : 0 < hL ν i := of_decide_eq_true w
          exact nI_nle this (by omega) z
        · rw [es, if_neg]
          rintro ⟨_, w, _⟩
          rw [if_pos w] at z2
          exact z2 rfl
        · have ho : hO ν i = true := decide_eq_true (by
            rcases Nat.eq_zero_or_pos (hL ν i) with w | w
            · rw [w] at z; exact absurd (by decide) z
            · exact w)
          have ht : hT ν i = true := by
            by_cases w : hT ν i = true
            · exact w
            · rw [if_neg w] at z2; exact absurd z2 (by decide)
          rw [es, if_pos ⟨ho, ht, (hasB (by omega)).mp z3⟩, bts_or (by decide) (by omega)]
        · rw [es, if_neg]
          rintro ⟨_, _, w⟩
          exact z3 ((hasB (by omega)).mpr w)
      refine ⟨fun z => ?_, fun z => ⟨fun z2 => ?_, fun z2 => ?_⟩⟩
      · refine step83 _ (fun w => ?_) (fun _ => rfl)
        have : 0 < hL ν i := of_decide_eq_true w.1
        exact absurd z (nI_nle this (by omega))
      · have ho : hO ν i = true := decide_eq_true (by
          rcases Nat.eq_zero_or_pos (hL ν i) with w | w
          · rw [w] at z; exact absurd (by decide) z
          · exact w)
        rw [bts_or (by decide) (by omega)]
        exact step83 _ (fun _ => rfl) (fun w => absurd ⟨ho, (hasB (by omega)).mp z2⟩ w)
      · refine step83 _ (fun w => absurd ((hasB (by omega)).mpr w.2) z2) (fun _ => rfl)
  -- the passes
  have main : ∀ k i (f : Nat → Bool) (v3 : Int32), i + k = 12 → rso ν n frm f → i + 1 ≤ cnb f 12 ∨ rcl ν n f → (v3 = bts f 12 → rcl ν n f) → κ 9 [.ref kR, .int (nI frm), .int (bts f 12), .int v3, .int (nI i), .null] [] μ := by
    intro k
    induction k with
    | zero =>
      intro i f v3 hi h1 h2 h3
      have hi : i = 12 := by omega
      subst hi
      refine B_X8_reach_9 hk ⟨fun _ => B_X8_reach_153 hk ⟨?_, rfl⟩, fun z => absurd (by decide) z⟩
      rcases h2 with h2 | h2
      · have := cnb_le f 12
        omega
      · rw [fin f h1 h2]
    | succ k ihk =>
      intro i f v3 hi h1 h2 h3
      refine B_X8_reach_9 hk ⟨fun z => absurd z (nI_ge (b := 12) (by omega) (by decide)), fun _ => ⟨fun z => B_X8_reach_153 hk ⟨by rw [fin f h1 (h3 z.symm)], rfl⟩, fun z => ?_⟩⟩
      refine pass f _ _ ?_
      rintro v rfl
      rw [nI_1]
      have hs := rso_p hR h1 n (Nat.le_refl n)
      refine ihk (i + 1) (rcp ν n f) (bts f 12) (by omega) hs ?_ ?_
      · by_cases w : ∀ j, j < 12 → rcp ν n f j = true → f j = true
        · right
          have hc := rcl_of hR w
          have e : ∀ j, j < 12 → rcp ν n f j = f j := by
            intro j hj
            rw [Bool.eq_iff_iff]
            exact ⟨w j hj, fun q => rcp_le q n⟩
          intro d hd ho
          rw [e _ (hR.N d hd).1, e _ (hR.N d hd).2]
          exact hc d hd ho
        · left
          obtain ⟨j, hj⟩ := Classical.not_forall.mp w
          obtain ⟨hj1, hj2⟩ := Classical.not_imp.mp hj
          obtain ⟨hj2, hj3⟩ := Classical.not_imp.mp hj2
          have hlt := cnb_lt (f := f) (g := rcp ν n f) (fun j q => rcp_le q n) (i := j) (by cases e : f j with
            | false => rfl
            | true => exact absurd e hj3) hj2 (n := 12) hj1
          rcases h2 with h2 | h2
          · omega
          · exfalso
            have hcl : ∀ d, d ≤ n → ∀ j, rcp ν d f j = true → f j = true := by
              intro d
              induction d with
              | zero => intro _ j q; exact q
              | succ d ihd =>
                intro hd j q
                rcases rcs_inv q with z | ⟨ho, ⟨z, rfl⟩ | ⟨ht, z, rfl⟩ | ⟨z, rfl⟩⟩
                · exact ihd (by omega) j z
                · exact (h2 d (by omega) ho).1 (ihd (by omega) _ z)
                · exact (h2 d (by omega) ho).2 ht (ihd (by omega) _ z)
                · exact ihd (by omega) _ z
            exact hj3 (hcl n (Nat.le_refl n) j hj2)
      · intro q
        have e := bts_inj (n := 12) (by decide) q
        have hc := rcl_of hR (f := f) (fun j hj w => by rw [e j hj]; exact w)
        intro d hd ho
        rw [← e _ (hR.N d hd).1, ← e _ (hR.N d hd).2]
        exact hc d hd ho
  refine main 12 0 (fun j => decide (j = frm)) 0 (by decide) ⟨by simp, fun j hj => ?_⟩ (Or.inl ?_) ?_
  · have : j = frm := of_decide_eq_true hj
    exact ⟨[], this.symm⟩
  · have : cnb (fun _ => false) 12 < cnb (fun j => decide (j = frm)) 12 := cnb_lt (fun j q => absurd q (by decide)) (i := frm) rfl (by simp) hfrm
    omega
  · intro q
    have := bts_inj (f := fun _ => false) (g := fun j => decide (j = frm)) (n := 12) (by decide) ((show bts (fun _ => false) 12 = 0 by decide).trans q) frm hfrm
    simp at this
theorem T_may {D : Nat} (hD : 4 ≤ D) (x : Int32) (μ : m2M) (h : REL μ) : stp D yX11_may cX11_may 2 (some .int) yX12_may cX12_may 4 (some .int) [.int x] μ REL := by
  obtain ⟨D, rfl⟩ : ∃ E, D = E + 1 := ⟨D - 1, by omega⟩
  obtain ⟨n, p, hR⟩ := id h
  have hR : RLn μ μ n p := hR
  have hp := hR.p8
  by_cases ok : in_ p x
  · obtain ⟨q, hq, rfl⟩ := ok
    have hw := hR.hw q hq
    refine T_of (some (.int (bts (fun r => (wyU μ n (hO μ) (hW μ q) r).isSome) 12))) μ ?_ (fun ν hv => ?_)
    · refine m2_MT.intro (ls := [.ref kC, .int (nI q)]) (by decide +kernel) rfl (ble rfl) (fun κ hk => ?_)
      refine B_X11_may_0 hk (Nat.zero_le _) ⟨fun _ => ⟨vp_in_nI (by omega) (by decide), ?_⟩, fun z => absurd ((fX6_has_iff hR.2.1.1 hp).mpr ⟨q, hq, rfl⟩) z⟩
      rw [nI_clamp (by omega), (hR.cw q hq).1]
      refine ⟨_, S_reach (by omega) μ μ hR hw.2, fun y6 μ7 r7 => ?_⟩
      rw [r7.1, r7.2]
      exact ⟨rfl, h, fr.rf⟩
    · have hv' := hv.thr
      have f1 : frM ν (m2_si ν kM 22 0) := fr_si rfl fr.rf
      have g7 : ν.1 kM 7 = nI p := (hv.1 kM 7 rfl rfl).trans hR.2.1.2.1
      refine m2_MT.intro (ls := [.ref kM, .int (nI q), .null, .null]) (by decide +kernel) rfl (ble rfl) (fun κ hk => ?_)
      refine B_X12_may_0 hk (by omega) ⟨fun _ => ?_, fun z => absurd ((fX12_isOne_iff (μ := m2_si ν kM 22 0) g7 hp).mpr ⟨q, hq, rfl⟩) z⟩
      have key := dn (n := 12) (G := fun i => ∀ μ1, vM μ μ1 → frM ν μ1 → κ 19 [.ref kM, .int (nI q), .int (bts (fun r => (wyU μ n (hO μ) (hW μ q) r).isSome) i), .int (nI i)] [] μ1) ?_ (fun i hi ih => ?_)
      · exact key _ hv' f1
      · intro μ1 v1 f1
        exact B_X12_may_19 hk ⟨fun _ => ⟨rfl, v1, f1⟩, fun z => absurd (by decide) z⟩
      · intro μ1 v1 f1
        refine B_X12_may_19 hk ⟨fun z => absurd z (nI_ge (b := 12) hi (by decide)), fun _ => ⟨vp_in_nI (by omega) (by decide), ?_⟩⟩
        rw [nI_clamp (by omega), v1.1 kM_where q rfl rfl, hw.1]
        refine ⟨_, S_findOpenWay (by omega) μ μ1 μ hR v1 hw.2 hi, fun y4 μ5 r5 => ?_⟩
        obtain ⟨j5, m5⟩ := r5
        rw [nI_1, bts_s1 (f := fun r => (wyU μ n (hO μ) (hW μ q) r).isSome)]
        · exact ih μ5 (j5.v v1) (f1.tr j5.2.m)
        · revert m5
          show _ → ((wyU μ n (hO μ) (hW μ q) i).isSome = true ↔ _)
          cases wyU μ n (hO μ) (hW μ q) i with
          | none => intro m5; cases m5; simp
          | some l => intro m5; have := m5.1; cases this; simp
  · refine T_of (some (.int (-1))) μ ?_ (fun ν hv => ?_)
    · refine m2_MT.intro (ls := [.ref kC, .int x]) (by decide +kernel) rfl (ble rfl) (fun κ hk => ?_)
      exact B_X11_may_0 hk (Nat.zero_le _) ⟨fun z => absurd ((fX6_has_iff hR.2.1.1 hp).mp z) ok, fun _ => ⟨rfl, h, fr.rf⟩⟩
    · have g7 : ν.1 kM 7 = nI p := (hv.1 kM 7 rfl rfl).trans hR.2.1.2.1
      refine m2_MT.intro (ls := [.ref kM, .int x, .null, .null]) (by decide +kernel) rfl (ble rfl) (fun κ hk => ?_)
      exact B_X12_may_0 hk (by omega) ⟨fun z => absurd ((fX12_isOne_iff (μ := m2_si ν kM 22 0) g7 hp).mp z) ok, fun _ => ⟨rfl, hv.thr, fr_si rfl fr.rf⟩⟩
