/-! what one more at a DOOR brings -/
def mnP (dc : (Nat → Bool) → Nat) (frm to V : Nat) : Prop := (∃ X : Nat → Bool, X frm = true ∧ X to = false ∧ dc X = V) ∧ ∀ X : Nat → Bool, X frm = true → X to = false → V ≤ dc X
noncomputable def mW (dc : (Nat → Bool) → Nat) (frm to : Nat) : Nat := Classical.epsilon (fun V => mnP dc frm to V)
theorem mcP.n {dc : (Nat → Bool) → Nat} {frm to V : Nat} {R : Nat → Bool} (h : mcP dc frm to V R) : mnP dc frm to V := ⟨⟨R, h.1, h.2.1, h.2.2.1⟩, h.2.2.2.1⟩
theorem mnP_eq {dc : (Nat → Bool) → Nat} {frm to V : Nat} (h : mnP dc frm to V) : V = mW dc frm to := by
  have e : mnP dc frm to (mW dc frm to) := Classical.epsilon_spec (p := fun V => mnP dc frm to V) ⟨V, h⟩
  obtain ⟨⟨X, x1, x2, x3⟩, h2⟩ := h
  obtain ⟨⟨Y, y1, y2, y3⟩, e2⟩ := e
  have := h2 Y y1 y2
  have := e2 X x1 x2
  omega
def crB (A B : Nat → Nat) (T : Nat → Bool) (d : Nat) (X : Nat → Bool) : Bool := (X (A d) && !X (B d)) || (T d && (X (B d) && !X (A d)))
def gnB (A B : Nat → Nat) (T : Nat → Bool) (R Z : Nat → Bool) (d : Nat) : Bool := (R (A d) && Z (B d)) || (T d && (R (B d) && Z (A d)))
section GN
variable {m : Nat} {A B : Nat → Nat} {T : Nat → Bool} {L f : Nat → Nat} {frm to : Nat}
theorem dcut_1 {d : Nat} (hd : d < m) (X : Nat → Bool) : dcut m A B T (updN L d (L d + 1)) X = dcut m A B T L X + (if crB A B T d X = true then 1 else 0) := by
  have := sumN_one (f := rcT A B T (updN L d (L d + 1)) (updN L d (L d + 1)) X) (g := rcT A B T L L X) (a := 0) (b := if crB A B T d X = true then 1 else 0) hd (fun i hi hne => by
    unfold rcT fwS
    rw [updN_ne hne]) (by
    unfold rcT fwS crB
    rw [updN_at]
    cases X (A d) <;> cases X (B d) <;> cases T d <;> simp <;> omega)
  exact this
theorem gain_V {V d : Nat} {R Z : Nat → Bool} (hd : d < m) (hR : mcP (dcut m A B T L) frm to V R) (hc : ∀ X : Nat → Bool, X frm = true → X to = false → rcut m A B T L f X + V = dcut m A B T L X) (hZ : bkS m A B T L f to Z) (hz : rbk m A B T L f Z) : mnP (dcut m A B T (updN L d (L d + 1))) frm to (V + (if gnB A B T R Z d = true then 1 else 0)) := by
  obtain ⟨r1, r2, r3, r4, r5⟩ := hR
  obtain ⟨z1, z2, z3⟩ := hZ
  have flip : ∀ X : Nat → Bool, rclo m A B T L f X → rbk m A B T L f (fun x => !X x) := by
    intro X hX e he
    obtain ⟨q1, q2⟩ := hX e he
    refine ⟨fun w1 w2 => ?_, fun w1 w2 => ?_⟩
    · cases c : X (A e) with
      | false => simp [c]
      | true => have := q1 c w2; simp [this] at w1
    · cases c : X (B e) with
      | false => simp [c]
      | true => have := q2 c w2; simp [this] at w1
  have zX : ∀ X : Nat → Bool, X to = false → rclo m A B T L f X → ∀ x, Z x = true → X x = false := by
    intro X h1 h2 x hx
    have := z3 (fun x => !X x) (by simp [h1]) (flip X h2) x hx
    simpa using this
  have cR : rclo m A B T L f R := rclo_of (by have := hc R r1 r2; omega)
  have zR := zX R r2 cR
  have zf : Z frm = false := by
    cases c : Z frm with
    | false => rfl
    | true => have := zR frm c; rw [r1] at this; cases this
  let X0 : Nat → Bool := fun x => !Z x
  have c0 : rclo m A B T L f X0 := by
    intro e he
    obtain ⟨q1, q2⟩ := hz e he
    refine ⟨fun w1 w2 => ?_, fun w1 w2 => ?_⟩
    · have w1 : (!Z (A e)) = true := w1
      show (!Z (B e)) = true
      cases c : Z (B e) with
      | false => rfl
      | true => have := q1 c w2; simp [this] at w1
    · have w1 : (!Z (B e)) = true := w1
      show (!Z (A e)) = true
      cases c : Z (A e) with
      | false => rfl
      | true => have := q2 c w2; simp [this] at w1
  have x1 : X0 frm = true := by show (!Z frm) = true; rw [zf]; rfl
  have x2 : X0 to = false := by show (!Z to) = false; rw [z1]; rfl
  have x3 : dcut m A B T L X0 = V := by have := hc X0 x1 x2; rw [rcut_0 c0] at this; omega
  by_cases g : gnB A B T R Z d = true
  · rw [if_pos g]
    have cross : ∀ X : Nat → Bool, X to = false → rclo m A B T L f X → (∀ x, R x = true → X x = true) → crB A B T d X = true := by
      intro X h1 h2 h3
      have hz' := zX X h1 h2
      unfold gnB at g
      unfold crB
      rw [Bool.or_eq_true, Bool.and_eq_true, Bool.and_eq_true, Bool.and_eq_true] at g
      rcases g with ⟨g1, g2⟩ | ⟨g1, g2, g3⟩
      · rw [h3 _ g1, hz' _ g2]; rfl
      · rw [g1, h3 _ g2, hz' _ g3]; simp
    refine ⟨⟨R, r1, r2, ?_⟩, fun X h1 h2 => ?_⟩
    · rw [dcut_1 hd, if_pos (cross R r2 cR (fun _ q => q)), r3]
    · rw [dcut_1 hd]
      have b1 := r4 X h1 h2
      by_cases e : dcut m A B T L X = V
      · have b2 := hc X h1 h2
        rw [if_pos (cross X h2 (rclo_of (by omega)) (r5 X h1 h2 e))]
        omega
      · omega
  · rw [if_neg g, Nat.add_zero]
    refine ⟨?_, fun X h1 h2 => ?_⟩
    · by_cases c : crB A B T d R = true
      · refine ⟨X0, x1, x2, ?_⟩
        rw [dcut_1 hd, x3, if_neg, Nat.add_zero]
        have a1 := zR (A d)
        have a2 := zR (B d)
        show ¬ ((!Z (A d) && !!Z (B d)) || (T d && (!Z (B d) && !!Z (A d)))) = true
        unfold gnB at g
        unfold crB at c
        revert a1 a2 g c
        cases R (A d) <;> cases R (B d) <;> cases Z (A d) <;> cases Z (B d) <;> cases T d <;> simp
      · refine ⟨R, r1, r2, ?_⟩
        rw [dcut_1 hd, r3, if_neg c, Nat.add_zero]
    · rw [dcut_1 hd]
      have := r4 X h1 h2
      omega
end GN
theorem S_addGains {D m : Nat} {A B : Nat → Nat} {T : Nat → Bool} {L : Nat → Nat} {R Z : Nat → Bool} (hD : 1 ≤ D) (μ : m2M) (h : fwA μ m A B T L) (hm : m ≤ 20) : m2_MT D yX1_addGains cX1_addGains 6 none [.ref kF, .int (bts R 12), .int (bts Z 12)] μ (fun _ μ' => fr (fun c => c == kF_gain) μ μ' ∧ ∀ d, d < m → μ'.1 kF_gain d = μ.1 kF_gain d + (if gnB A B T R Z d = true then 1 else 0)) := by
  obtain ⟨D, rfl⟩ : ∃ E, D = E + 1 := ⟨D - 1, by omega⟩
  refine m2_MT.intro (ls := [.ref kF, .int (bts R 12), .int (bts Z 12), .null, .null, .null]) (by decide +kernel) rfl (ble rfl) (fun κ hk => ?_)
  refine B_X1_addGains_0 hk ?_
  refine dn (n := m) (G := fun i => ∀ M, fr (fun c => c == kF_gain) μ M → (∀ d, d < i → M.1 kF_gain d = μ.1 kF_gain d + (if gnB A B T R Z d = true then 1 else 0)) → (∀ d, i ≤ d → M.1 kF_gain d = μ.1 kF_gain d) → κ 2 [.ref kF, .int (bts R 12), .int (bts Z 12), .int (nI i), .null, .null] [] M) (fun M hM h1 h2 => ?_) (fun i hi ih M hM h1 h2 => ?_) μ fr.rf (fun d hd => absurd hd (Nat.not_lt_zero d)) (fun _ _ => rfl)
  · exact B_X1_addGains_2 hk (Nat.zero_le _) ⟨fun _ => ⟨hM, h1⟩, fun w => absurd (by rw [(hM kF rfl).1, h.1]; exact nI_le (Nat.le_refl _) (by omega)) w⟩
  · obtain ⟨a1, a2, a3, a4, a5, a6, a7, a8⟩ := h.2.2 i hi
    have eo : μ.1 kF_oneWay i = 0 ↔ T i = true := by
      rw [a6]
      cases T i <;> simp
    have nx : ∀ x : Int32, x = (if gnB A B T R Z i = true then 1 else 0) → κ 2 [.ref kF, .int (bts R 12), .int (bts Z 12), .int (nI i + 1), .null, .null] [] (m2_si M kF_gain i (M.1 kF_gain i + x)) := by
      intro x hx
      rw [nI_1]
      refine ih _ (fr_si rfl hM) (fun d hd => ?_) (fun d hd => ?_)
      · by_cases e : d = i
        · rw [e, si_at, h2 i (Nat.le_refl _), hx]
        · rw [si_nj _ _ _ e]; exact h1 d (by omega)
      · rw [si_nj _ _ _ (by omega)]; exact h2 d (by omega)
    have n1 : gnB A B T R Z i = true → κ 2 [.ref kF, .int (bts R 12), .int (bts Z 12), .int (nI i + 1), .null, .null] [] (m2_si M kF_gain i (M.1 kF_gain i + (if (1 : Int32) = 0 then 0 else 1 : Int32))) := fun e => nx _ (by rw [if_pos e]; rfl)
    have n0 : gnB A B T R Z i = false → κ 2 [.ref kF, .int (bts R 12), .int (bts Z 12), .int (nI i + 1), .null, .null] [] (m2_si M kF_gain i (M.1 kF_gain i + (if (0 : Int32) = 0 then 0 else 1 : Int32))) := fun e => nx _ (by rw [if_pos rfl, if_neg (by rw [e]; decide)])
    have k82 : ∀ v : Int32, (¬ v = 0 ↔ gnB A B T R Z i = true) → κ 82 [.ref kF, .int (bts R 12), .int (bts Z 12), .int (nI i), .int v, .null] [] M := by
      intro v hv
      refine B_X1_addGains_82 hk (Nat.zero_le _) ⟨vp_in_nI (by omega) (by decide), ?_⟩
      rw [nI_clamp (by omega)]
      refine ⟨fun w => n1 (hv.mp w), fun w => n0 ?_⟩
      cases e : gnB A B T R Z i with
      | false => rfl
      | true => exact absurd w (hv.mpr e)
    have k40 : (R (A i) && Z (B i)) = false → κ 40 [.ref kF, .int (bts R 12), .int (bts Z 12), .int (nI i), .null, .null] [] M := by
      intro e0
      refine B_X1_addGains_40 hk (Nat.zero_le _) ⟨vp_in_nI (by omega) (by decide), ?_⟩
      rw [nI_clamp (by omega), (hM kF_oneWay rfl).1, (hM kF_a rfl).1, (hM kF_b rfl).1, a1, a3, eo, hasB12 a4, hasB12 a2]
      refine ⟨fun w => k82 0 ?_, fun w => ⟨fun w2 => ⟨fun w3 => ⟨vp_in_nI (by omega) (by decide), n1 ?_⟩, fun w3 => k82 0 ?_⟩, fun w2 => k82 0 ?_⟩⟩
      · unfold gnB; rw [e0]; simp [w]
      · unfold gnB; rw [w, w2, w3]; simp
      · unfold gnB; rw [e0]; simp [w3]
      · unfold gnB; rw [e0]; simp [w2]
    refine B_X1_addGains_2 hk (Nat.zero_le _) ⟨fun w => absurd (by rw [(hM kF rfl).1, h.1] at w; exact w) (nI_ge hi (by omega)), fun _ => ⟨vp_in_nI (by omega) (by decide), ?_⟩⟩
    rw [nI_clamp (by omega), (hM kF_oneWay rfl).1, (hM kF_a rfl).1, (hM kF_b rfl).1, a1, a3, eo, hasB12 a2, hasB12 a4, hasB12 a4, hasB12 a2]
    refine ⟨fun w => ⟨fun w2 => ⟨fun _ => k82 1 ?_, fun w3 => ⟨fun w4 => ⟨fun w5 => ⟨vp_in_nI (by omega) (by decide), n1 ?_⟩, fun _ => k82 1 ?_⟩, fun _ => k82 1 ?_⟩⟩, fun w2 => k40 (by rw [(Bool.not_eq_true _).mp w2]; simp)⟩, fun w => k40 (by rw [(Bool.not_eq_true _).mp w]; rfl)⟩
    · unfold gnB; simp [w, w2]
    · unfold gnB; simp [w, w2]
    · unfold gnB; simp [w, w2]
    · unfold gnB; simp [w, w2]
