/-! home, fire: who can go, one after another -/
theorem cnb_ad {f : Nat → Bool} {q : Nat} (h : f q = false) : ∀ {n : Nat}, cnb (adB f q) n = cnb f n + (if q < n then 1 else 0)
  | 0 => rfl
  | n + 1 => by
    show cnb (adB f q) n + (if adB f q n = true then 1 else 0) = cnb f n + (if f n = true then 1 else 0) + (if q < n + 1 then 1 else 0)
    rw [cnb_ad h (n := n)]
    by_cases e : n = q
    · subst e
      rw [if_neg (Nat.lt_irrefl _), if_pos adB_i, if_neg (by rw [h]; decide), if_pos (by omega)]
    · have : adB f q n = f n := by unfold adB; rw [decide_eq_false e, Bool.or_false]
      rw [this]
      by_cases z : q < n
      · rw [if_pos z, if_pos (show q < n + 1 by omega)]; omega
      · rw [if_neg z, if_neg (show ¬ q < n + 1 by omega)]; omega
theorem cnb_sp {f g : Nat → Bool} : ∀ n : Nat, cnb f n = cnb (fun q => f q && g q) n + cnb (fun q => f q && !g q) n
  | 0 => rfl
  | n + 1 => by
    have := cnb_sp (f := f) (g := g) n
    unfold cnb
    cases e1 : f n <;> cases e2 : g n <;> simp <;> omega
theorem cnb_f0 {f : Nat → Bool} : ∀ {n : Nat}, (∀ i, i < n → f i = false) → cnb f n = 0
  | 0, _ => rfl
  | n + 1, h => by
    unfold cnb
    rw [cnb_f0 (fun i hi => h i (by omega)), h n (by omega)]
    rfl
/-- so many of S are in X -/
def inX (w : Nat → Nat) (S X : Nat → Bool) : Nat := cnb (fun q => S q && X (w q)) 8
theorem inX_ad {w : Nat → Nat} {S X : Nat → Bool} {q : Nat} (hq : q < 8) (h : S q = false) : inX w (adB S q) X = inX w S X + (if X (w q) = true then 1 else 0) := by
  unfold inX
  by_cases z : X (w q) = true
  · rw [if_pos z]
    have e : cnb (fun j => adB S q j && X (w j)) 8 = cnb (adB (fun j => S j && X (w j)) q) 8 := cnb_congr (fun i _ => by
      unfold adB
      by_cases e : i = q
      · rw [e, z]; simp
      · rw [decide_eq_false e]; simp)
    rw [e, cnb_ad (by rw [h]; rfl), if_pos hq]
  · rw [if_neg z, Nat.add_zero]
    refine cnb_congr (fun i _ => ?_)
    unfold adB
    by_cases e : i = q
    · rw [e, (Bool.not_eq_true _).mp z]; simp
    · rw [decide_eq_false e]; simp
def noG (g X : Nat → Bool) : Prop := ∀ r, r < 12 → g r = true → X r = false
def fea (dc : (Nat → Bool) → Nat) (w : Nat → Nat) (g S : Nat → Bool) : Prop := ∀ X : Nat → Bool, noG g X → inX w S X ≤ dc X
noncomputable def gdB (F : (Nat → Bool) → Prop) : Nat → Nat → Bool
  | 0 => fun _ => false
  | q + 1 => @ite (Nat → Bool) (F (adB (gdB F q) q)) (Classical.propDecidable _) (adB (gdB F q) q) (gdB F q)
theorem gdB_y {F : (Nat → Bool) → Prop} {q : Nat} (h : F (adB (gdB F q) q)) : gdB F (q + 1) = adB (gdB F q) q := @if_pos _ (Classical.propDecidable _) h _ _ _
theorem gdB_n {F : (Nat → Bool) → Prop} {q : Nat} (h : ¬ F (adB (gdB F q) q)) : gdB F (q + 1) = gdB F q := @if_neg _ (Classical.propDecidable _) h _ _ _
theorem gdB_f {F : (Nat → Bool) → Prop} : ∀ {q j : Nat}, q ≤ j → gdB F q j = false
  | 0, _, _ => rfl
  | q + 1, j, h => by
    have ih := gdB_f (F := F) (q := q) (j := j) (by omega)
    by_cases z : F (adB (gdB F q) q)
    · rw [gdB_y z]
      unfold adB
      rw [ih, decide_eq_false (by omega)]
      rfl
    · rw [gdB_n z]; exact ih
section SO
variable {m : Nat} {A B : Nat → Nat} {T : Nat → Bool} {L f : Nat → Nat}
theorem S_sendOne {D frm : Nat} {g : Nat → Bool} (hD : 2 ≤ D) (μ : m2M) (h : fwR μ m A B T L f) (hfrm : frm < 12) : m2_MT D yX1_sendOne cX1_sendOne 4 (some .boolean) [.ref kF, .int (nI frm), .int (bts g 12)] μ (fun r μ' => frN μ μ' ∧ ((r = some (.int 1) ∧ ∃ f', fwR μ' m A B T L f' ∧ ∀ X : Nat → Bool, noG g X → rcut m A B T L f' X + (if X frm = true then 1 else 0) = rcut m A B T L f X) ∨ (r = some (.int 0) ∧ fwR μ' m A B T L f ∧ ∃ R : Nat → Bool, R frm = true ∧ noG g R ∧ rcut m A B T L f R = 0))) := by
  obtain ⟨D, rfl⟩ : ∃ E, D = E + 1 := ⟨D - 1, by omega⟩
  refine m2_MT.intro (ls := [.ref kF, .int (nI frm), .int (bts g 12), .null]) (by decide +kernel) rfl (ble rfl) (fun κ hk => ?_)
  refine B_X1_sendOne_0 hk ⟨_, S_search (g := g) (by omega) μ h hfrm, fun y1 μ2 hq => ?_⟩
  obtain ⟨q1, q2⟩ := hq
  have h2 := q1.R h
  rcases q2 with ⟨e, R, r1, r2, r3, r4, r5⟩ | ⟨to, l, ix, e, p1, p2, p3, p4, p5⟩
  · cases e
    refine ⟨fun w => absurd rfl w, fun _ => ⟨q1.N, Or.inr ⟨rfl, h2, R, r2, fun r hr hg => ?_, rcut_0 r3⟩⟩⟩
    cases c : R r with
    | false => rfl
    | true => have := (r4 r c).2; rw [hg] at this; cases this
  · cases e
    have hle : ∀ q, q ∈ l → 1 ≤ fwF A B T L f q.1 q.2 := by
      have key : ∀ (l : List (Nat × Nat)) (r : Nat), bpt m A B T L f ix frm l r → ∀ q, q ∈ l → 1 ≤ fwF A B T L f q.1 q.2 := by
        intro l
        induction l with
        | nil => intro r _ q hq; exact absurd hq (by simp)
        | cons p l ih =>
          intro r hb q hq
          obtain ⟨g1, g2, g3, g4, g5, g6, g7, g8⟩ := hb
          rcases List.mem_cons.mp hq with rfl | z
          · exact g3
          · exact ih p.2 g8 q z
      exact key l to p3
    refine ⟨fun _ => ⟨_, S_push (n := 1) _ h2 hfrm p1 p3 p4 p5 hle, fun μ8 h8 => ?_⟩, fun w => absurd w (nI_ne_m1 (by omega))⟩
    have cutE := (fwL_all h2.toA.ne p3 h2.2.2.2 hle).2
    refine ⟨q1.N.tr (frN_net h8.1), Or.inl ⟨rfl, _, h8.2, fun X hX => ?_⟩⟩
    have := cutE X
    rw [if_neg (show ¬ X to = true by rw [hX to p1 p2]; decide), Nat.add_zero] at this
    exact this
end SO
set_option maxHeartbeats 1000000 in
theorem S_rescued {D n p : Nat} {g : Nat → Bool} (hD : 3 ≤ D) (μ : m2M) (hR : RLn μ μ n p) : m2_MT D yX11_tellRescued cX11_tellRescued 4 (some .int) [.ref kC, .int (bts g 12)] μ (fun r μ' => r = some (.int (nI (cnb (gdB (fea (dcut n (dA μ) (dB μ) (dT μ) (dL μ)) (hW μ) g) p) 8))) ∧ REL2 (tlM μ [(bts (gdB (fea (dcut n (dA μ) (dB μ) (dT μ) (dL μ)) (hW μ) g) p) 8).toInt64]) μ' ∧ frC μ μ') := by
  obtain ⟨D, rfl⟩ : ∃ E, D = E + 1 := ⟨D - 1, by omega⟩
  have hp := hR.p8
  let dc := dcut n (dA μ) (dB μ) (dT μ) (dL μ)
  let G := gdB (fea dc (hW μ) g)
  refine m2_MT.intro (ls := [.ref kC, .int (bts g 12), .null, .null]) (by decide +kernel) rfl (ble rfl) (fun κ hk => ?_)
  refine B_X11_tellRescued_0 hk ⟨_, S_load (by omega) μ μ hR, fun μ2 h2 => ?_⟩
  obtain ⟨f2, a2, _, n2⟩ := h2
  have go : ∀ (k q : Nat) (M : m2M), q + k = p → frK μ M → (∃ f, fwR M n (dA μ) (dB μ) (dT μ) (dL μ) f ∧ ∀ X : Nat → Bool, noG g X → rcut n (dA μ) (dB μ) (dT μ) (dL μ) f X + inX (hW μ) (G q) X = dc X) → κ 15 [.ref kC, .int (bts g 12), .int (bts (G q) 8), .int (nI q)] [] M := by
    intro k
    induction k with
    | zero =>
      intro q M hq hM hs
      have e : q = p := by omega
      subst e
      refine B_X11_tellRescued_15 hk (Nat.zero_le _) ⟨fun _ => ⟨_, S_tellC _ _ rC.i (by decide), fun μ4 h4 => ⟨?_, ?_, ?_⟩⟩, fun w => absurd (by rw [(hM kP rfl).1, hR.2.1.1]; exact nI_le (Nat.le_refl _) (by omega)) w⟩
      · rw [bitC (by decide)]
      · exact REL2.tell (hM.j.R hR).r h4.1 (twC.i.tr h4.2) (ble rfl)
      · exact h4.2.fr rfl rfl (twC.i.fr rfl rfl hM.j.2.c)
    | succ k ih =>
      intro q M hq hM hs
      obtain ⟨f, hf, hcut⟩ := hs
      have hw := hR.cw q (by omega)
      have hGf : G q q = false := gdB_f (Nat.le_refl _)
      refine B_X11_tellRescued_15 hk (Nat.zero_le _) ⟨fun w => absurd (by rw [(hM kP rfl).1, hR.2.1.1] at w; exact w) (nI_ge (by omega) (by omega)), fun _ => ⟨vp_in_nI (by omega) (by decide), ?_⟩⟩
      rw [nI_clamp (by omega), (hM kP_where rfl).1, hw.1, nI_1, bts_or (by decide) (show q < 8 by omega)]
      refine ⟨_, S_sendOne (g := g) (by omega) M hf hw.2, fun y12 μ13 h13 => ?_⟩
      obtain ⟨f13, h13⟩ := h13
      have fK : frK μ μ13 := hM.tr f13.k
      rcases h13 with ⟨e, f', hf', hc'⟩ | ⟨e, hf', R, r1, r2, r3⟩
      · cases e
        have yes : fea dc (hW μ) g (adB (G q) q) := by
          intro X hX
          have := hc' X hX
          have := hcut X hX
          rw [inX_ad (by omega) hGf]
          omega
        have eG : G (q + 1) = adB (G q) q := gdB_y yes
        rw [if_neg (by decide)]
        show κ 15 [.ref kC, .int (bts g 12), .int (bts (adB (G q) q) 8), .int (nI (q + 1))] [] μ13
        rw [← eG]
        refine ih (q + 1) μ13 (by omega) fK ⟨f', hf', fun X hX => ?_⟩
        have := hc' X hX
        have := hcut X hX
        rw [eG, inX_ad (by omega) hGf]
        omega
      · cases e
        have no : ¬ fea dc (hW μ) g (adB (G q) q) := by
          intro y
          have b1 := y R r2
          have b2 := hcut R r2
          rw [inX_ad (by omega) hGf, if_pos r1] at b1
          omega
        have eG : G (q + 1) = G q := gdB_n no
        rw [if_pos rfl, ← eG]
        refine ih (q + 1) μ13 (by omega) fK ⟨f, hf', fun X hX => ?_⟩
        rw [eG]
        exact hcut X hX
  have e0 : (0 : Int32) = bts (G 0) 8 := by
    show (0 : Int32) = bts (fun _ => false) 8
    decide
  have start := go p 0 μ2 (by omega) f2 ?_
  · rw [← e0] at start
    exact start
  refine ⟨dL μ, a2.R (fun d hd => by rw [n2 d hd, Int32.sub_self]) (fun d hd => by unfold fwS; omega), fun X hX => ?_⟩
  have : inX (hW μ) (G 0) X = 0 := cnb_f0 (fun i _ => rfl)
  rw [this]
  rfl
