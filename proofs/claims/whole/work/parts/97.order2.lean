/-! order: all lines, and what no line can better -/
def oky (w t : Nat) : Nat := (800 - w) * 1000 + t
def lnS (n p pl : Nat) (ν : m2M) (P : List Nat) : m2M × Nat := P.foldl (fun r q => ((tripN n p q pl 2 r.1).1, r.2 + (tripN n p q pl 2 r.1).2.1)) (ν, 0)
theorem lnS_s (n p pl : Nat) (ν : m2M) (P : List Nat) (q : Nat) : lnS n p pl ν (P ++ [q]) = ((tripN n p q pl 2 (lnS n p pl ν P).1).1, (lnS n p pl ν P).2 + (tripN n p q pl 2 (lnS n p pl ν P).1).2.1) := by
  unfold lnS
  rw [List.foldl_append]
  rfl
def odV (n p pl : Nat) (ν : m2M) : Nat → (Nat → Bool) → List Nat → tB
  | 0, _, P => some (oky (wdN (lnS n p pl ν P).1 p) (lnS n p pl ν P).2, P)
  | k + 1, S, P => tvL (fun q => if S q = true then odV n p pl ν k (rmB S q) (P ++ [q]) else none) p
/-- the WORTH that can still be DONE -/
def hpF (ν : m2M) (S : Nat → Bool) (q : Nat) : Nat := if ν.1 kM_isDone q = 0 then (if S q = true then woN ν q else 0) else woN ν q
def hpN (ν : m2M) (S : Nat → Bool) (p : Nat) : Nat := bf_sum (hpF ν S) p
def muN (ν : m2M) (n q : Nat) : Nat := if woN ν q = 0 then 0 else if ptR ν n q ν < 268435456 then ptR ν n q ν else 0
def muF (ν : m2M) (n : Nat) (S : Nat → Bool) (q : Nat) : Nat := if S q = true then muN ν n q else 0
def muS (ν : m2M) (n : Nat) (S : Nat → Bool) (p : Nat) : Nat := bf_sum (muF ν n S) p
theorem bf_sum_cg {f g : Nat → Nat} : ∀ {N : Nat}, (∀ i, i < N → f i = g i) → bf_sum f N = bf_sum g N
  | 0, _ => rfl
  | N + 1, h => by
    show bf_sum f N + f N = bf_sum g N + g N
    rw [bf_sum_cg (fun i hi => h i (by omega)), h N (by omega)]
theorem bf_sum_at {f g : Nat → Nat} {q x : Nat} (hq : f q = g q + x) : ∀ {N : Nat}, q < N → (∀ i, i < N → i ≠ q → f i = g i) → bf_sum f N = bf_sum g N + x
  | 0, h, _ => absurd h (Nat.not_lt_zero _)
  | N + 1, h, hc => by
    show bf_sum f N + f N = bf_sum g N + g N + x
    by_cases e : q = N
    · subst e
      rw [bf_sum_cg (f := f) (g := g) (fun i hi => hc i (by omega) (by omega)), hq]
      omega
    · rw [bf_sum_at hq (by omega) (fun i hi hn => hc i (by omega) hn), hc N (by omega) (Ne.symm e)]
      omega
theorem bf_sum_b {f : Nat → Nat} {b : Nat} : ∀ {N : Nat}, (∀ i, i < N → f i ≤ b) → bf_sum f N ≤ b * N
  | 0, _ => Nat.zero_le _
  | N + 1, h => by
    have h1 := bf_sum_b (f := f) (b := b) (N := N) (fun i hi => h i (by omega))
    have h2 := h N (by omega)
    show bf_sum f N + f N ≤ _
    rw [Nat.mul_succ]
    omega
theorem wdN_sum (ν : m2M) : ∀ p, wdN ν p = bf_sum (fun q => if ν.1 kM_isDone q = 0 then 0 else woN ν q) p
  | 0 => rfl
  | p + 1 => by
    show wdN ν p + _ = bf_sum _ p + _
    rw [wdN_sum ν p]
/-- those who are still to go, behind P -/
def okS (ν : m2M) (p : Nat) (S : Nat → Bool) (P : List Nat) : Prop := (∀ q, S q = true → q < p ∧ q ∉ P ∧ gN ν q ≠ -1) ∧ ∀ q, q ∈ P → q < p ∧ gN ν q ≠ -1
theorem okS.rm {ν : m2M} {p q : Nat} {S : Nat → Bool} {P : List Nat} (h : okS ν p S P) (hq : S q = true) : okS ν p (rmB S q) (P ++ [q]) := by
  refine ⟨fun r hr => ?_, fun r hr => ?_⟩
  · unfold rmB at hr
    simp only [Bool.and_eq_true, Bool.not_eq_true', decide_eq_false_iff_not] at hr
    obtain ⟨a, b, c⟩ := h.1 r hr.1
    exact ⟨a, by simp [b, hr.2], c⟩
  · rcases List.mem_append.mp hr with z | z
    · exact h.2 r z
    · have : r = q := by simpa using z
      rw [this]
      exact ⟨(h.1 q hq).1, (h.1 q hq).2.2⟩
theorem gN_err {ν : m2M} {q : Nat} (hq : q < 8) (h : gN ν q ≠ -1) : ν.1 kM_errand q ≠ -1 ∧ ν.1 kM_isDone q = 0 := by
  rw [gN_eq hq] at h
  by_cases z : ν.1 kM_errand q = -1
  · rw [if_pos z] at h; exact absurd rfl h
  · rw [if_neg z] at h
    by_cases y : ν.1 kM_isDone q = 0
    · exact ⟨z, y⟩
    · rw [if_neg y] at h; exact absurd rfl h
theorem lnS_ok {ν μ : m2M} {n p pl : Nat} (h : RLn ν μ n p) : ∀ (P : List Nat), (∀ q, q ∈ P → q < p ∧ gN ν q ≠ -1) → lkO ν (lnS n p pl ν P).1 n p ∧ mvd n p ν (lnS n p pl ν P).1 ∧ (lnS n p pl ν P).2 ≤ 22 * P.length ∧ ∀ r c, r ∉ P → c ≠ kM_left → (lnS n p pl ν P).1.1 c r = ν.1 c r := by
  intro P hP
  have key : ∀ (k : Nat), k ≤ P.length → lkO ν (lnS n p pl ν (P.take k)).1 n p ∧ mvd n p ν (lnS n p pl ν (P.take k)).1 ∧ (lnS n p pl ν (P.take k)).2 ≤ 22 * k ∧ ∀ r c, r ∉ P → c ≠ kM_left → (lnS n p pl ν (P.take k)).1.1 c r = ν.1 c r := by
    intro k
    induction k with
    | zero => exact fun _ => ⟨lkO.rf h, mvd.of vM.rf, Nat.le_refl _, fun _ _ _ _ => rfl⟩
    | succ k ih =>
      intro hk
      obtain ⟨i1, i2, i3, i4⟩ := ih (by omega)
      obtain ⟨q, eq⟩ : ∃ q, P[k]? = some q := ⟨P[k], List.getElem?_eq_getElem (by omega)⟩
      have hm := List.mem_of_getElem? eq
      obtain ⟨hq, hg⟩ := hP q hm
      have e : P.take (k + 1) = P.take k ++ [q] := by rw [List.take_add_one, eq]; rfl
      rw [e, lnS_s]
      have hp8 := h.p8
      obtain ⟨a1, a2, a3⟩ := lkO_trip (pl := pl) h hq (gN_err (by omega) hg).1 2 i1
      obtain ⟨μ', hR'⟩ := i1.1
      refine ⟨a1, mvd_trip hq 2 hR' i2, ?_, fun r c hr hc => ?_⟩
      · show _ + _ ≤ _
        omega
      · refine (tripN_oth (fun w => hr ?_) hc 2).trans (i4 r c hr hc)
        rw [w]; exact hm
  have := key P.length (Nat.le_refl _)
  rw [List.take_length] at this
  exact this
theorem ptR_oth {ν0 ν ν' : m2M} {n q : Nat} (h1 : ν'.1 kM_isDone q = ν.1 kM_isDone q) (h2 : ν'.1 kM_wasThere q = ν.1 kM_wasThere q) (h3 : ν'.1 kM_where q = ν.1 kM_where q) : ptR ν0 n q ν' = ptR ν0 n q ν := by
  unfold ptR hW
  rw [h1, h2, h3]
theorem wo_oth {ν ν' : m2M} {q : Nat} (h : ν'.1 kM_worth = ν.1 kM_worth) : woN ν' q = woN ν q := by
  unfold woN
  rw [h]
/-- one goes: what is hoped, what must be -/
theorem hp_step {ν μ : m2M} {n p pl q : Nat} {S : Nat → Bool} {P : List Nat} (h : RLn ν μ n p) (hS : okS ν p S P) (hq : S q = true) : hpN (lnS n p pl ν P).1 S p = hpN (lnS n p pl ν (P ++ [q])).1 (rmB S q) p + (if (lnS n p pl ν (P ++ [q])).1.1 kM_isDone q = 0 then woN ν q else 0) ∧ muS ν n S p = muS ν n (rmB S q) p + muN ν n q := by
  obtain ⟨hqp, hqP, hqg⟩ := hS.1 q hq
  have hp8 := h.p8
  obtain ⟨l1, _, _, l4⟩ := lnS_ok (pl := pl) h P hS.2
  obtain ⟨r1, _, _, r4⟩ := lnS_ok (pl := pl) h (P ++ [q]) (hS.rm hq).2
  have ew : ∀ i, woN (lnS n p pl ν P).1 i = woN ν i := fun i => wo_oth (l1.2.1 kM_worth (by decide) (by decide) (by decide) (by decide))
  have ew' : ∀ i, woN (lnS n p pl ν (P ++ [q])).1 i = woN ν i := fun i => wo_oth (r1.2.1 kM_worth (by decide) (by decide) (by decide) (by decide))
  have d0 : (lnS n p pl ν P).1.1 kM_isDone q = 0 := (l4 q kM_isDone hqP (by decide)).trans (gN_err (by omega) hqg).2
  refine ⟨bf_sum_at (q := q) ?_ hqp (fun i hi hn => ?_), bf_sum_at (q := q) ?_ hqp (fun i hi hn => ?_)⟩
  · unfold hpF
    rw [ew, ew', d0, if_pos rfl, if_pos hq]
    have : rmB S q q = false := by unfold rmB; simp
    rw [this]
    by_cases z : (lnS n p pl ν (P ++ [q])).1.1 kM_isDone q = 0
    · rw [if_pos z, if_pos z]; simp
    · rw [if_neg z, if_neg z]; rfl
  · unfold hpF
    rw [ew, ew']
    have e1 : (lnS n p pl ν (P ++ [q])).1.1 kM_isDone i = (lnS n p pl ν P).1.1 kM_isDone i := by
      rw [lnS_s]
      exact tripN_oth hn (by decide) 2
    have e2 : rmB S q i = S i := by unfold rmB; simp [hn]
    rw [e1, e2]
  · unfold muF
    have : rmB S q q = false := by unfold rmB; simp
    rw [if_pos hq, this]
    simp
  · unfold muF
    have e2 : rmB S q i = S i := by unfold rmB; simp [hn]
    rw [e2]
/-- .. and what must be is, if its WORTH is DONE -/
theorem mu_step {ν μ : m2M} {n p pl q : Nat} {S : Nat → Bool} {P : List Nat} (h : RLn ν μ n p) (hS : okS ν p S P) (hq : S q = true) (hd : (lnS n p pl ν (P ++ [q])).1.1 kM_isDone q = 0 → woN ν q = 0) : (lnS n p pl ν P).2 + muN ν n q ≤ (lnS n p pl ν (P ++ [q])).2 := by
  obtain ⟨hqp, hqP, hqg⟩ := hS.1 q hq
  have hp8 := h.p8
  obtain ⟨l1, _, _, l4⟩ := lnS_ok (pl := pl) h P hS.2
  have a := (lkO_trip (pl := pl) h hqp (gN_err (by omega) hqg).1 2 l1).2.1
  rw [lnS_s] at hd ⊢
  show _ ≤ (lnS n p pl ν P).2 + (tripN n p q pl 2 (lnS n p pl ν P).1).2.1
  rw [ptR_oth (ν := ν) (l4 q kM_isDone hqP (by decide)) (l4 q kM_wasThere hqP (by decide)) (l4 q kM_where hqP (by decide))] at a
  unfold muN
  by_cases z : woN ν q = 0
  · rw [if_pos z]; omega
  · rw [if_neg z]
    have e : ptR ν n q (tripN n p q pl 2 (lnS n p pl ν P).1).1 = 0 := by
      unfold ptR
      rw [if_neg (fun w => z (hd w))]
    split <;> omega
theorem odV_ge {ν μ : m2M} {n p pl : Nat} (h : RLn ν μ n p) : ∀ (k : Nat) {S : Nat → Bool} {P : List Nat} {r : Nat × List Nat}, okS ν p S P → cnb S 12 = k → odV n p pl ν k S P = some r → ∃ w t, r.1 = oky w t ∧ w ≤ hpN (lnS n p pl ν P).1 S p ∧ (w = hpN (lnS n p pl ν P).1 S p → (lnS n p pl ν P).2 + muS ν n S p ≤ t) ∧ t ≤ (lnS n p pl ν P).2 + 22 * k ∧ r.2.length = P.length + k
  | 0, S, P, r, hS, hk, e => by
    have e : some (oky (wdN (lnS n p pl ν P).1 p) (lnS n p pl ν P).2, P) = some r := e
    cases e
    have hz := cnb_z hk
    have hp8 := h.p8
    have e1 : hpN (lnS n p pl ν P).1 S p = wdN (lnS n p pl ν P).1 p := by
      rw [wdN_sum]
      refine bf_sum_cg (fun i hi => ?_)
      unfold hpF
      rw [hz i (by omega)]
      rfl
    have e2 : muS ν n S p = 0 := by
      have : bf_sum (muF ν n S) p ≤ 0 * p := bf_sum_b (fun i hi => by unfold muF; rw [hz i (by omega)]; exact Nat.le_refl 0)
      show bf_sum (muF ν n S) p = 0
      omega
    exact ⟨_, _, rfl, by rw [e1]; exact Nat.le_refl _, fun _ => by rw [e2]; exact Nat.le_refl _, by omega, rfl⟩
  | k + 1, S, P, r, hS, hk, e => by
    obtain ⟨q, hq, e⟩ := tvL_f e
    by_cases z : S q = true
    · rw [if_pos z] at e
      have hp8 := h.p8
      obtain ⟨w, t, i1, i2, i3, i4, i5⟩ := odV_ge h k (hS.rm z) (by have := cnb_rm z (by omega); omega) e
      obtain ⟨s1, s2⟩ := hp_step (pl := pl) h hS z
      obtain ⟨l1, _, l3, _⟩ := lnS_ok (pl := pl) h P hS.2
      have tl := (lkO_trip (pl := pl) h hq (gN_err (by omega) (hS.1 q z).2.2).1 2 l1).2.2
      refine ⟨w, t, i1, by omega, fun ew => ?_, ?_, by rw [i5]; simp; omega⟩
      · have hd : (lnS n p pl ν (P ++ [q])).1.1 kM_isDone q = 0 → woN ν q = 0 := by
          intro y
          rw [if_pos y] at s1
          omega
        have m := mu_step (pl := pl) h hS z hd
        have := i3 (by omega)
        omega
      · rw [lnS_s] at i4
        have : t ≤ (lnS n p pl ν P).2 + (tripN n p q pl 2 (lnS n p pl ν P).1).2.1 + 22 * k := i4
        omega
    · rw [if_neg z] at e; cases e
theorem hpN_le {ν μ : m2M} {n p pl : Nat} {S : Nat → Bool} {P : List Nat} (h : RLn ν μ n p) (hP : ∀ q, q ∈ P → q < p ∧ gN ν q ≠ -1) : hpN (lnS n p pl ν P).1 S p ≤ 792 := by
  obtain ⟨⟨μ', h'⟩, _⟩ := (lnS_ok (pl := pl) h P hP).1
  have hp8 := h.p8
  have := bf_sum_b (f := hpF (lnS n p pl ν P).1 S) (b := 99) (N := p) (fun i hi => by
    have := (h'.wo hi).2
    unfold hpF
    split
    · split <;> omega
    · omega)
  show bf_sum _ p ≤ 792
  omega
/-- a line that can't be better -/
theorem odV_no {ν μ : m2M} {n p pl k : Nat} {S : Nat → Bool} {P : List Nat} {b : tB} (h : RLn ν μ n p) (hS : okS ν p S P) (hk : cnb S 12 = k) (hk6 : P.length + k ≤ 6) {bw bt : Nat} {bl : List Nat} (hb : b = some (oky bw bt, bl)) (hbw : bw ≤ 792) (hbt : bt ≤ 300) (hno : hpN (lnS n p pl ν P).1 S p < bw ∨ (hpN (lnS n p pl ν P).1 S p = bw ∧ bt ≤ (lnS n p pl ν P).2 + muS ν n S p)) : mrg b (odV n p pl ν k S P) = b := by
  subst hb
  cases e : odV n p pl ν k S P with
  | none => rfl
  | some r =>
    obtain ⟨w, t, i1, i2, i3, i4, i5⟩ := odV_ge h k hS hk e
    refine if_neg ?_
    rw [i1]
    show ¬ oky w t < oky bw bt
    unfold oky
    by_cases z : w = bw
    · have := i3 (by omega)
      rw [z]
      omega
    · omega
