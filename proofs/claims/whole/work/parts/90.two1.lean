/-! two: rows of DOORS in order -/
def bey (A B : Nat → Nat) (T : Nat → Bool) (d u : Nat) : Option Nat := if A d = u then some (B d) else if B d = u ∧ T d = true then some (A d) else none
theorem bey_iff {A B : Nat → Nat} {T : Nat → Bool} {d u v : Nat} (h : bey A B T d u = some v) : (A d = u ∧ B d = v) ∨ (T d = true ∧ B d = u ∧ A d = v) := by
  unfold bey at h
  by_cases e : A d = u
  · rw [if_pos e] at h
    exact Or.inl ⟨e, Option.some.inj h⟩
  · rw [if_neg e] at h
    by_cases e2 : B d = u ∧ T d = true
    · rw [if_pos e2] at h
      exact Or.inr ⟨e2.2, e2.1, Option.some.inj h⟩
    · rw [if_neg e2] at h; cases h
def dfc (A B : Nat → Nat) (T U : Nat → Bool) (X : Nat → Nat → tB) (u : Nat) (S : Nat → Bool) (d : Nat) : tB := if U d = true then (match bey A B T d u with
  | none => none
  | some v => if S v = true then none else X d v) else none
theorem dfc_some {A B : Nat → Nat} {T U : Nat → Bool} {X : Nat → Nat → tB} {u : Nat} {S : Nat → Bool} {d : Nat} {q : Nat × List Nat} (h : dfc A B T U X u S d = some q) : U d = true ∧ ∃ v, bey A B T d u = some v ∧ S v = false ∧ X d v = some q := by
  unfold dfc at h
  by_cases e : U d = true
  · rw [if_pos e] at h
    rcases eb : bey A B T d u with _ | v
    · rw [eb] at h; cases h
    · rw [eb] at h
      have h : (if S v = true then none else X d v) = some q := h
      by_cases e2 : S v = true
      · rw [if_pos e2] at h; cases h
      · rw [if_neg e2] at h
        exact ⟨e, v, rfl, by simpa using e2, h⟩
  · rw [if_neg e] at h; cases h
theorem dfc_of {A B : Nat → Nat} {T U : Nat → Bool} {X : Nat → Nat → tB} {u v : Nat} {S : Nat → Bool} {d : Nat} (hU : U d = true) (hb : bey A B T d u = some v) (hS : S v = false) : dfc A B T U X u S d = X d v := by
  unfold dfc
  rw [if_pos hU, hb]
  show (if S v = true then none else X d v) = _
  rw [hS]
  rfl
theorem dfc_no {A B : Nat → Nat} {T U : Nat → Bool} {X : Nat → Nat → tB} {u : Nat} {S : Nat → Bool} {d : Nat} (h : U d = true → ∀ v, bey A B T d u = some v → S v = true) : dfc A B T U X u S d = none := by
  cases e : dfc A B T U X u S d with
  | none => rfl
  | some q =>
    obtain ⟨h1, v, h2, h3, -⟩ := dfc_some e
    rw [h h1 v h2] at h3
    cases h3
/-- the first of the least of all rows of at most k more DOORS -/
def dff (A B : Nat → Nat) (T U : Nat → Bool) (n goal : Nat) (G : List Nat → tB) : Nat → Nat → (Nat → Bool) → List Nat → tB
  | 0, u, _, P => if u = goal then G P else none
  | k + 1, u, S, P => if u = goal then G P else tvL (dfc A B T U (fun d v => dff A B T U n goal G k v (adB S v) (P ++ [d])) u S) n
theorem dff_goal {A B : Nat → Nat} {T U : Nat → Bool} {n goal : Nat} {G : List Nat → tB} (k : Nat) (S : Nat → Bool) (P : List Nat) : dff A B T U n goal G k goal S P = G P := by
  cases k <;> exact if_pos rfl
theorem dff_ge {A B : Nat → Nat} {T U : Nat → Bool} {n goal m : Nat} {G : List Nat → tB} {f : Nat → Nat} (hf0 : f goal = 0) (hf : ∀ d u v, d < n → U d = true → bey A B T d u = some v → f u ≤ 1 + f v) (hG : ∀ P q, G P = some q → P.length + m ≤ q.1) : ∀ {k u : Nat} {S : Nat → Bool} {P : List Nat} {q : Nat × List Nat}, dff A B T U n goal G k u S P = some q → P.length + f u + m ≤ q.1 ∧ f u ≤ k
  | 0, u, S, P, q, h => by
    have h : (if u = goal then G P else none) = some q := h
    by_cases e : u = goal
    · subst e
      rw [if_pos rfl] at h
      rw [hf0]
      exact ⟨hG P q h, Nat.le_refl 0⟩
    · rw [if_neg e] at h; cases h
  | k + 1, u, S, P, q, h => by
    by_cases e : u = goal
    · subst e
      rw [dff_goal] at h
      rw [hf0]
      exact ⟨hG P q h, Nat.zero_le _⟩
    · have h : (if u = goal then G P else tvL (dfc A B T U (fun d v => dff A B T U n goal G k v (adB S v) (P ++ [d])) u S) n) = some q := h
      rw [if_neg e] at h
      obtain ⟨d, hd, h1⟩ := tvL_f h
      obtain ⟨hU, v, hb, hS, h2⟩ := dfc_some h1
      obtain ⟨i1, i2⟩ := dff_ge hf0 hf hG h2
      have := hf d u v hd hU hb
      have el : (P ++ [d]).length = P.length + 1 := by simp
      rw [el] at i1
      omega
/-- what it finds is a row behind P -/
theorem dff_P {A B : Nat → Nat} {T U : Nat → Bool} {n goal : Nat} {G : List Nat → tB} : ∀ {k u : Nat} {S : Nat → Bool} {P : List Nat} {q : Nat × List Nat}, dff A B T U n goal G k u S P = some q → ∃ R : List Nat, R.length ≤ k ∧ G (P ++ R) = some q
  | 0, u, S, P, q, h => by
    have h : (if u = goal then G P else none) = some q := h
    by_cases e : u = goal
    · rw [if_pos e] at h
      exact ⟨[], Nat.le_refl 0, by rw [List.append_nil]; exact h⟩
    · rw [if_neg e] at h; cases h
  | k + 1, u, S, P, q, h => by
    by_cases e : u = goal
    · subst e
      rw [dff_goal] at h
      exact ⟨[], Nat.zero_le _, by rw [List.append_nil]; exact h⟩
    · have h : (if u = goal then G P else tvL (dfc A B T U (fun d v => dff A B T U n goal G k v (adB S v) (P ++ [d])) u S) n) = some q := h
      rw [if_neg e] at h
      obtain ⟨d, hd, h1⟩ := tvL_f h
      obtain ⟨hU, v, hb, hS, h2⟩ := dfc_some h1
      obtain ⟨R, r1, r2⟩ := dff_P h2
      refine ⟨d :: R, by simp; omega, ?_⟩
      rw [← r2, List.append_assoc]
      rfl
theorem mrg_none (b : tB) : mrg none b = b := by cases b <;> rfl
/-- one that is first and least -/
theorem tvL_lt {c : Nat → tB} {m : Nat} : ∀ {r : Nat}, (∀ d q, d < r → c d = some q → m < q.1) → ∀ q, tvL c r = some q → m < q.1 := by
  intro r h q hq
  obtain ⟨i, hi, e⟩ := tvL_f hq
  exact h i q hi e
theorem tvL_fst {c : Nat → tB} {d0 N : Nat} {q0 : Nat × List Nat} (h0 : c d0 = some q0) (h1 : ∀ d q, d < d0 → c d = some q → q0.1 < q.1) (h2 : ∀ d q, d0 < d → d < N → c d = some q → q0.1 ≤ q.1) : ∀ {n : Nat}, d0 < n → n ≤ N → tvL c n = some q0
  | 0, h, _ => absurd h (Nat.not_lt_zero _)
  | n + 1, h, hN => by
    show mrg (tvL c n) (c n) = some q0
    by_cases e : d0 = n
    · subst e
      rw [h0]
      cases ec : tvL c d0 with
      | none => rfl
      | some q1 => exact if_pos (tvL_lt h1 q1 ec)
    · rw [tvL_fst h0 h1 h2 (show d0 < n by omega) (by omega)]
      exact mrg_c (some q0) _ q0.1 ⟨q0, rfl, Nat.le_refl _⟩ (fun q hq => h2 n q (by omega) (by omega) hq)
theorem bey_E {A B : Nat → Nat} {T U : Nat → Bool} {n d u v : Nat} (hd : d < n) (hU : U d = true) (h : bey A B T d u = some v) : bf_E A B T (fun d => if U d = true then 1 else 0) n u v 1 := by
  refine ⟨d, hd, ?_, ?_, bey_iff h⟩
  · show (if U d = true then 1 else 0) ≠ 0
    rw [if_pos hU]; decide
  · show 1 = if U d = true then 1 else 0
    rw [if_pos hU]
/-- the way that costs say is the first of the shortest rows -/
theorem dff_way {A B : Nat → Nat} {T U : Nat → Bool} {n goal far s : Nat} {H : List Nat} {f : Nat → Nat} (hAB : ∀ d, d < n → A d ≠ B d) (hF : bf_F A B T (fun d => if U d = true then 1 else 0) n far goal f) : ∀ {k j u : Nat} {S : Nat → Bool} {P : List Nat}, f u < far → f u ≤ k → f u ≤ j → (∀ v, f v < f u → S v = false) → dff A B T U n goal (fun P => some (s + P.length, H ++ P)) k u S P = some (s + (P.length + f u), H ++ (P ++ bf_pt A B (fun u => bf_nx (fun d => bf_tb A B T (fun d => if U d = true then 1 else 0) f d u) n) goal j u)) ∧ (bf_pt A B (fun u => bf_nx (fun d => bf_tb A B T (fun d => if U d = true then 1 else 0) f d u) n) goal j u).length = f u := by
  have hle : ∀ d u v, d < n → U d = true → bey A B T d u = some v → f u ≤ 1 + f v := fun d u v hd hU hb => hF.2.2.1 u v 1 (bey_E hd hU hb)
  have hge : ∀ (P : List Nat) (q : Nat × List Nat), (fun P : List Nat => (some (s + P.length, H ++ P) : tB)) P = some q → P.length + s ≤ q.1 := by
    intro P q h
    have h : some (s + P.length, H ++ P) = some q := h
    cases h
    show P.length + s ≤ s + P.length
    omega
  intro k
  induction k with
  | zero =>
    intro j u S P h1 h2 h3 h4
    have e : u = goal := by
      apply Classical.byContradiction
      intro w
      obtain ⟨v, w', e1, e2⟩ := hF.2.2.2 u w h1
      obtain ⟨d, _, d2, d3, _⟩ := e1
      have : w' ≠ 0 := by rw [d3]; exact d2
      omega
    subst e
    have ep : bf_pt A B (fun u => bf_nx (fun d => bf_tb A B T (fun d => if U d = true then 1 else 0) f d u) n) u j u = [] := by
      cases j with
      | zero => rfl
      | succ j => unfold bf_pt; rw [if_pos rfl]
    rw [ep, dff_goal, List.append_nil]
    exact ⟨by rw [hF.1]; rfl, hF.1.symm⟩
  | succ k ih =>
    intro j u S P h1 h2 h3 h4
    by_cases e : u = goal
    · subst e
      have ep : bf_pt A B (fun u => bf_nx (fun d => bf_tb A B T (fun d => if U d = true then 1 else 0) f d u) n) u j u = [] := by
        cases j with
        | zero => rfl
        | succ j => unfold bf_pt; rw [if_pos rfl]
      rw [ep, dff_goal, List.append_nil]
      exact ⟨by rw [hF.1]; rfl, hF.1.symm⟩
    · obtain ⟨v0, w0, e1, e2⟩ := hF.2.2.2 u e h1
      obtain ⟨d1, a1, a2, a3, a4⟩ := e1
      have hU1 : U d1 = true := by
        apply Classical.byContradiction
        intro w
        exact a2 (by show (if U d1 = true then 1 else 0) = 0; rw [if_neg w])
      have htb : bf_tb A B T (fun d => if U d = true then 1 else 0) f d1 u = true := by
        refine bf_tb_iff.mpr ⟨a2, ?_⟩
        rcases a4 with ⟨z1, z2⟩ | ⟨z0, z1, z2⟩
        · exact Or.inl ⟨z1, by rw [z2, e2, a3, Nat.add_comm]⟩
        · exact Or.inr ⟨z0, z1, by rw [z2, e2, a3, Nat.add_comm]⟩
      obtain ⟨d0, hd0⟩ := bf_nx_ex (p := fun d => bf_tb A B T (fun d => if U d = true then 1 else 0) f d u) a1 htb
      obtain ⟨b1, b2, b3⟩ := bf_nx_some.mp hd0
      obtain ⟨c1, c2⟩ := bf_tb_iff.mp b2
      have hU0 : U d0 = true := by
        apply Classical.byContradiction
        intro w
        exact c1 (by show (if U d0 = true then 1 else 0) = 0; rw [if_neg w])
      have eC : (if U d0 = true then 1 else 0) = 1 := if_pos hU0
      obtain ⟨v, hb, hv, hn⟩ : ∃ v, bey A B T d0 u = some v ∧ f u = f v + 1 ∧ (if A d0 = u then B d0 else A d0) = v := by
        rcases c2 with ⟨z1, z2⟩ | ⟨z0, z1, z2⟩
        · exact ⟨B d0, if_pos z1, by rw [z2, eC], if_pos z1⟩
        · have z3 : ¬ A d0 = u := fun w => hAB d0 b1 (w.trans z1.symm)
          exact ⟨A d0, by unfold bey; rw [if_neg z3, if_pos ⟨z1, z0⟩], by rw [z2, eC], if_neg z3⟩
      obtain ⟨j, rfl⟩ : ∃ i, j = i + 1 := ⟨j - 1, by omega⟩
      have ep : bf_pt A B (fun u => bf_nx (fun d => bf_tb A B T (fun d => if U d = true then 1 else 0) f d u) n) goal (j + 1) u = d0 :: bf_pt A B (fun u => bf_nx (fun d => bf_tb A B T (fun d => if U d = true then 1 else 0) f d u) n) goal j v := by
        rw [← hn]
        show (if u = goal then _ else _) = _
        rw [if_neg e]
        show (match bf_nx (fun d => bf_tb A B T (fun d => if U d = true then 1 else 0) f d u) n with | none => _ | some d => _) = _
        rw [hd0]
      obtain ⟨i1, i2⟩ := ih (j := j) (u := v) (S := adB S v) (P := P ++ [d0]) (by omega) (by omega) (by omega) (fun x hx => by
        unfold adB
        rw [h4 x (by omega), decide_eq_false (fun w : x = v => by rw [w] at hx; omega)]
        rfl)
      have el : (P ++ [d0]).length = P.length + 1 := by simp
      refine ⟨?_, by rw [ep, List.length_cons, i2, hv]⟩
      rw [ep]
      show (if u = goal then _ else tvL (dfc A B T U (fun d v => dff A B T U n goal (fun P => some (s + P.length, H ++ P)) k v (adB S v) (P ++ [d])) u S) n) = _
      rw [if_neg e]
      have eS : S v = false := h4 v (by omega)
      have e0 : dfc A B T U (fun d v => dff A B T U n goal (fun P => some (s + P.length, H ++ P)) k v (adB S v) (P ++ [d])) u S d0 = some (s + (P.length + f u), H ++ (P ++ d0 :: bf_pt A B (fun u => bf_nx (fun d => bf_tb A B T (fun d => if U d = true then 1 else 0) f d u) n) goal j v)) := by
        rw [dfc_of hU0 hb eS]
        show dff A B T U n goal (fun P => some (s + P.length, H ++ P)) k v (adB S v) (P ++ [d0]) = _
        rw [i1, el, hv, List.append_assoc]
        show some (s + (P.length + 1 + f v), _) = some (s + (P.length + (f v + 1)), _)
        rw [show P.length + 1 + f v = P.length + (f v + 1) by omega]
        rfl
      refine tvL_fst (N := n) e0 (fun d q hd hq => ?_) (fun d q hd hdn hq => ?_) b1 (Nat.le_refl n)
      · obtain ⟨g1, x, g2, g3, g4⟩ := dfc_some hq
        obtain ⟨k1, k2⟩ := dff_ge (m := s) hF.1 hle hge g4
        have eld : (P ++ [d]).length = P.length + 1 := by simp
        rw [eld] at k1
        have := hle d u x (by omega) g1 g2
        have ne : f u ≠ f x + 1 := by
          intro w
          have : bf_tb A B T (fun d => if U d = true then 1 else 0) f d u = true := by
            refine bf_tb_iff.mpr ⟨by show (if U d = true then 1 else 0) ≠ 0; rw [if_pos g1]; decide, ?_⟩
            have eC : (if U d = true then 1 else 0) = 1 := if_pos g1
            rcases bey_iff g2 with ⟨z1, z2⟩ | ⟨z0, z1, z2⟩
            · exact Or.inl ⟨z1, by rw [z2, eC]; exact w⟩
            · exact Or.inr ⟨z0, z1, by rw [z2, eC]; exact w⟩
          rw [b3 d hd] at this
          cases this
        show s + (P.length + f u) < q.1
        omega
      · obtain ⟨g1, x, g2, g3, g4⟩ := dfc_some hq
        obtain ⟨k1, k2⟩ := dff_ge (m := s) hF.1 hle hge g4
        have eld : (P ++ [d]).length = P.length + 1 := by simp
        rw [eld] at k1
        have := hle d u x hdn g1 g2
        show s + (P.length + f u) ≤ q.1
        omega
/-- Routes.find beside it -/
theorem dff_wy {A B : Nat → Nat} {T U : Nat → Bool} {n goal frm s k : Nat} {H : List Nat} {S : Nat → Bool} (hN : ∀ d, d < n → A d < 12 ∧ B d < 12) (hAB : ∀ d, d < n → A d ≠ B d) (hgoal : goal < 12) (hfrm : frm < 12) (hk : k ≤ 11) (hS : ∀ v, v ≠ frm → S v = false) : dff A B T U n goal (fun P => some (s + P.length, H ++ P)) k frm S [] = (match wy A B T (fun d => if U d = true then 1 else 0) n 268435456 frm goal with
    | none => none
    | some l => if l.length ≤ k then some (s + l.length, H ++ l) else none) := by
  have hF := wy_F (A := A) (B := B) (T := T) (C := fun d => if U d = true then 1 else 0) (n := n) (far := 268435456) (goal := goal) hN hAB hgoal
  have hle : ∀ d u v, d < n → U d = true → bey A B T d u = some v → wy_f A B T (fun d => if U d = true then 1 else 0) n 268435456 goal u ≤ 1 + wy_f A B T (fun d => if U d = true then 1 else 0) n 268435456 goal v := fun d u v hd hU hb => hF.2.2.1 u v 1 (bey_E hd hU hb)
  have hge : ∀ (P : List Nat) (q : Nat × List Nat), (fun P : List Nat => (some (s + P.length, H ++ P) : tB)) P = some q → P.length + s ≤ q.1 := by
    intro P q h
    have h : some (s + P.length, H ++ P) = some q := h
    cases h
    show P.length + s ≤ s + P.length
    omega
  have nn : ¬ wy_f A B T (fun d => if U d = true then 1 else 0) n 268435456 goal frm ≤ k → dff A B T U n goal (fun P => some (s + P.length, H ++ P)) k frm S [] = none := by
    intro w
    cases e : dff A B T U n goal (fun P => some (s + P.length, H ++ P)) k frm S [] with
    | none => rfl
    | some q => exact absurd (dff_ge hF.1 hle hge e).2 w
  cases ew : wy A B T (fun d => if U d = true then 1 else 0) n 268435456 frm goal with
  | none =>
    have : ¬ wy_f A B T (fun d => if U d = true then 1 else 0) n 268435456 goal frm < 268435456 := by
      intro w
      unfold wy at ew
      rw [if_pos w] at ew
      cases ew
    exact nn (by omega)
  | some l =>
    have hlt : wy_f A B T (fun d => if U d = true then 1 else 0) n 268435456 goal frm < 268435456 := by
      apply Classical.byContradiction
      intro w
      unfold wy at ew
      rw [if_neg w] at ew
      cases ew
    have hwk := wy_ok hN hAB hgoal hfrm ew
    have hlen : wy_f A B T (fun d => if U d = true then 1 else 0) n 268435456 goal frm ≤ l.length * 1 := bf_of_wk hF (fun d _ => by show (if U d = true then 1 else 0) ≤ 1; split <;> decide) hwk.1
    by_cases z : wy_f A B T (fun d => if U d = true then 1 else 0) n 268435456 goal frm ≤ k
    · obtain ⟨i1, i2⟩ := dff_way (s := s) (H := H) (j := 12) (u := frm) (S := S) (P := []) hAB hF hlt z (by omega) (fun v hv => hS v (fun w => by rw [w] at hv; omega))
      unfold wy at ew
      rw [if_pos hlt] at ew
      have el := Option.some.inj ew
      rw [el] at i1 i2
      rw [i1]
      show _ = if l.length ≤ k then _ else _
      rw [if_pos (by omega), ← i2]
      show some (s + (0 + l.length), H ++ l) = _
      rw [Nat.zero_add]
    · rw [nn z]
      show none = if l.length ≤ k then _ else _
      rw [if_neg (by omega)]
