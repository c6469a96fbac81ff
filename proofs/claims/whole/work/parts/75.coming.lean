/-! Flow.comingTo, addGains; what one more brings -/
def rbk (m : Nat) (A B : Nat → Nat) (T : Nat → Bool) (L f : Nat → Nat) (X : Nat → Bool) : Prop := ∀ d, d < m → (X (B d) = true → 0 < f d → X (A d) = true) ∧ (X (A d) = true → 0 < fwS T L d - f d → X (B d) = true)
def bkS (m : Nat) (A B : Nat → Nat) (T : Nat → Bool) (L f : Nat → Nat) (to : Nat) (Z : Nat → Bool) : Prop := Z to = true ∧ (∀ x, Z x = true → x < 12) ∧ ∀ X : Nat → Bool, X to = true → rbk m A B T L f X → ∀ x, Z x = true → X x = true
def adB (Z : Nat → Bool) (i : Nat) : Nat → Bool := fun j => Z j || decide (j = i)
theorem adB_o {Z : Nat → Bool} {i j : Nat} (h : Z j = true) : adB Z i j = true := by unfold adB; rw [h]; rfl
theorem adB_i {Z : Nat → Bool} {i : Nat} : adB Z i i = true := by unfold adB; simp
theorem adB_e {Z : Nat → Bool} {i j : Nat} (h : adB Z i j = true) : Z j = true ∨ j = i := by
  unfold adB at h
  rw [Bool.or_eq_true] at h
  exact h.imp id of_decide_eq_true
section CM
variable {m : Nat} {A B : Nat → Nat} {T : Nat → Bool} {L f : Nat → Nat} {to : Nat}
theorem bkS.add {Z : Nat → Bool} (h : bkS m A B T L f to Z) {i : Nat} (hi : i < 12) (hx : ∀ X : Nat → Bool, X to = true → rbk m A B T L f X → (∀ x, Z x = true → X x = true) → X i = true) : bkS m A B T L f to (adB Z i) := by
  obtain ⟨h1, h2, h3⟩ := h
  refine ⟨adB_o h1, fun x q => ?_, fun X q1 q2 x q => ?_⟩
  · rcases adB_e q with z | z
    · exact h2 x z
    · rw [z]; exact hi
  · rcases adB_e q with z | z
    · exact h3 X q1 q2 x z
    · rw [z]; exact hx X q1 q2 (h3 X q1 q2)
set_option maxHeartbeats 1000000 in
theorem S_comingTo {D : Nat} (hD : 1 ≤ D) (μ : m2M) (h : fwR μ m A B T L f) (hto : to < 12) : m2_MT D yX1_comingTo cX1_comingTo 6 (some .int) [.ref kF, .int (nI to)] μ (fun r μ' => (∃ Z : Nat → Bool, r = some (.int (bts Z 12)) ∧ bkS m A B T L f to Z ∧ rbk m A B T L f Z) ∧ μ' = μ) := by
  obtain ⟨D, rfl⟩ : ∃ E, D = E + 1 := ⟨D - 1, by omega⟩
  have hm := h.2.1
  refine m2_MT.intro (ls := [.ref kF, .int (nI to), .null, .null, .null, .null]) (by decide +kernel) rfl (ble rfl) (fun κ hk => ?_)
  refine B_X1_comingTo_0 hk ?_
  rw [bts_one (n := 12) (by decide) hto]
  let pI : (Nat → Bool) → Nat → (Nat → Bool) → Prop := fun S d Z => (∀ x, S x = true → Z x = true) ∧ bkS m A B T L f to Z ∧ ∀ e, e < d → (S (B e) = true → 0 < f e → Z (A e) = true) ∧ (S (A e) = true → 0 < fwS T L e - f e → Z (B e) = true)
  have pass : ∀ (S : Nat → Bool) (v3 v4 : Int32), bkS m A B T L f to S → (∀ Z, pI S m Z → κ 9 [.ref kF, .int (nI to), .int (bts Z 12), .int v3, .int (v4 + 1), .null] [] μ) → κ 26 [.ref kF, .int (nI to), .int (bts S 12), .int v3, .int v4, .int 0] [] μ := by
    intro S v3 v4 hS kk
    refine dn (n := m) (G := fun d => ∀ Z, pI S d Z → κ 26 [.ref kF, .int (nI to), .int (bts Z 12), .int v3, .int v4, .int (nI d)] [] μ) (fun Z hZ => ?_) (fun d hd ih Z hZ => ?_) S ⟨fun _ q => q, hS, fun e he => absurd he (Nat.not_lt_zero e)⟩
    · exact B_X1_comingTo_26 hk (Nat.zero_le _) ⟨fun _ => kk Z hZ, fun w => absurd (by rw [h.1]; exact nI_le (Nat.le_refl _) (by omega)) w⟩
    · obtain ⟨a1, a2, a3, a4, a5, a6, a7, a8, a9⟩ := h.2.2.1 d hd
      have ea : fwF A B T L f d (A d) = f d := if_pos rfl
      have eb : fwF A B T L f d (B d) = fwS T L d - f d := by
        unfold fwF
        rw [if_neg a5, if_pos rfl]
      have hfa := h.free hd a2
      have hfb := h.free hd a4
      have hla := fwF_le (A := A) (B := B) (u := A d) h.2.2.2 hd a8
      have hlb := fwF_le (A := A) (B := B) (u := B d) h.2.2.2 hd a8
      rw [ea] at hfa hla
      rw [eb] at hfb hlb
      have la := nI_le0 (a := f d) (by omega)
      have lb := nI_le0 (a := fwS T L d - f d) (by omega)
      obtain ⟨z1, z2, z3⟩ := hZ
      have nx : ∀ Z' : Nat → Bool, (∀ x, Z x = true → Z' x = true) → bkS m A B T L f to Z' → (Z (B d) = true → 0 < f d → Z' (A d) = true) → (Z (A d) = true → 0 < fwS T L d - f d → Z' (B d) = true) → κ 26 [.ref kF, .int (nI to), .int (bts Z' 12), .int v3, .int v4, .int (nI d + 1)] [] μ := by
        intro Z' y1 y2 y3 y4
        rw [nI_1]
        refine ih Z' ⟨fun x q => y1 x (z1 x q), y2, fun e he => ?_⟩
        by_cases c : e = d
        · rw [c]
          exact ⟨fun q => y3 (z1 _ q), fun q => y4 (z1 _ q)⟩
        · obtain ⟨w1, w2⟩ := z3 e (by omega)
          exact ⟨fun q1 q2 => y1 _ (w1 q1 q2), fun q1 q2 => y1 _ (w2 q1 q2)⟩
      refine B_X1_comingTo_26 hk (Nat.zero_le _) ⟨fun w => absurd (by rw [h.1] at w; exact w) (nI_ge hd (by omega)), fun _ => ⟨vp_in_nI (by omega) (by decide), ?_⟩⟩
      rw [nI_clamp (by omega), a1, a3, hfa, hfb, bts_or (by decide) a2, bts_or (by decide) a4, bts_or (by decide) a4, hasB12 a2, hasB12 a4, hasB12 a2, la, lb]
      have same : (Z (B d) = true → ¬ 0 < f d) → (Z (A d) = true → ¬ 0 < fwS T L d - f d) → κ 26 [.ref kF, .int (nI to), .int (bts Z 12), .int v3, .int v4, .int (nI d + 1)] [] μ := fun q1 q2 => nx Z (fun _ q => q) z2 (fun w1 w2 => absurd w2 (q1 w1)) (fun w1 w2 => absurd w2 (q2 w1))
      have plusB : (Z (B d) = true → ¬ 0 < f d) → Z (A d) = true → 0 < fwS T L d - f d → κ 26 [.ref kF, .int (nI to), .int (bts (adB Z (B d)) 12), .int v3, .int v4, .int (nI d + 1)] [] μ := fun q1 q2 q3 => nx _ (fun _ q => adB_o q) (z2.add a4 (fun X g1 g2 g3 => (g2 d hd).2 (g3 _ q2) q3)) (fun w1 w2 => absurd w2 (q1 w1)) (fun _ _ => adB_i)
      refine ⟨fun w => ⟨fun w2 => ⟨fun w3 => ⟨fun w4 => same (fun _ => by omega) (fun _ => by omega), fun w4 => plusB (fun _ => by omega) w3 (by omega)⟩, fun w3 => same (fun _ => by omega) (fun q => absurd q w3)⟩, fun w2 => ?_⟩, fun w => ⟨fun w3 => ⟨fun w4 => same (fun q => absurd q w) (fun _ => by omega), fun w4 => plusB (fun q => absurd q w) w3 (by omega)⟩, fun w3 => same (fun q => absurd q w) (fun q => absurd q w3)⟩⟩
      have kA : bkS m A B T L f to (adB Z (A d)) := z2.add a2 (fun X g1 g2 g3 => (g2 d hd).1 (g3 _ w) (by omega))
      refine ⟨fun w3 => ⟨fun w4 => nx (adB Z (A d)) (fun _ q => adB_o q) kA (fun _ _ => adB_i) (fun _ q => absurd q (by omega)), fun w4 => nx (adB (adB Z (A d)) (B d)) (fun _ q => adB_o (adB_o q)) (kA.add a4 (fun X g1 g2 g3 => (g2 d hd).2 (g3 _ adB_i) (by omega))) (fun _ _ => adB_o adB_i) (fun _ _ => adB_i)⟩, fun w3 => absurd (show adB Z (A d) (A d) = true from adB_i) w3⟩
  have stable : ∀ (Z Z' : Nat → Bool), bkS m A B T L f to Z → pI Z m Z' → (∀ x, x < 12 → Z' x = true → Z x = true) → rbk m A B T L f Z' := by
    intro Z Z' hz hp hs d hd
    obtain ⟨p1, p2, p3⟩ := hp
    obtain ⟨_, a2, _, a4, _⟩ := h.2.2.1 d hd
    exact ⟨fun q1 q2 => (p3 d hd).1 (hs _ a4 q1) q2, fun q1 q2 => (p3 d hd).2 (hs _ a2 q1) q2⟩
  have main : ∀ (k i : Nat) (Z : Nat → Bool) (v3 : Int32), i + k = 12 → bkS m A B T L f to Z → (i + 1 ≤ cnb Z 12 ∨ rbk m A B T L f Z) → (bts Z 12 = v3 → rbk m A B T L f Z) → κ 9 [.ref kF, .int (nI to), .int (bts Z 12), .int v3, .int (nI i), .null] [] μ := by
    intro k
    induction k with
    | zero =>
      intro i Z v3 hi hz hc hv
      have : rbk m A B T L f Z := by
        rcases hc with q | q
        · have := cnb_le Z 12
          omega
        · exact q
      have e : i = 12 := by omega
      subst e
      exact B_X1_comingTo_9 hk ⟨fun _ => ⟨⟨Z, rfl, hz, this⟩, rfl⟩, fun w => absurd (nI_le (Nat.le_refl 12) (by decide)) w⟩
    | succ k ih =>
      intro i Z v3 hi hz hc hv
      refine B_X1_comingTo_9 hk ⟨fun w => absurd w (nI_ge (b := 12) (by omega) (by decide)), fun _ => ⟨fun w => ⟨⟨Z, rfl, hz, hv w⟩, rfl⟩, fun _ => pass Z _ _ hz (fun Z' hZ' => ?_)⟩⟩
      rw [nI_1]
      refine ih (i + 1) Z' _ (by omega) hZ'.2.1 ?_ (fun e => ?_)
      · by_cases c : ∃ x, x < 12 ∧ Z x = false ∧ Z' x = true
        · obtain ⟨x, c1, c2, c3⟩ := c
          rcases hc with q | q
          · left
            have := cnb_lt hZ'.1 c2 c3 c1
            omega
          · have := hZ'.2.1.2.2 Z hz.1 q x c3
            rw [this] at c2
            cases c2
        · right
          refine stable Z Z' hz hZ' (fun x hx q => ?_)
          cases e : Z x with
          | true => rfl
          | false => exact absurd ⟨x, hx, e, q⟩ c
      · exact stable Z Z' hz hZ' (fun x hx q => by rw [← bts_inj (by decide) e x hx]; exact q)
  refine main 12 0 _ 0 rfl ⟨by simp, fun x q => ?_, fun X q1 _ x q => ?_⟩ (Or.inl ?_) (fun e => ?_)
  · rw [of_decide_eq_true q]; exact hto
  · rw [of_decide_eq_true q]; exact q1
  · have := nodup_len (l := [to]) (n := 12) (List.nodup_cons.mpr ⟨by simp, List.nodup_nil⟩) (fun x hx => by rw [List.mem_singleton.mp hx]; exact hto)
    rw [cnb_congr (g := fun j => decide (j = to)) (fun i _ => by simp)] at this
    exact this
  · have e0 : (0 : Int32) = bts (fun _ => false) 12 := by decide
    rw [e0] at e
    have := bts_inj (by decide) e to hto
    simp at this
end CM
