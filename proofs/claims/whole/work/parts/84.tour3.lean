/-! tour, send: the class -/
theorem bf_pt_len {A B : Nat → Nat} {T : Nat → Bool} {C f : Nat → Nat} {n goal : Nat} (hC : ∀ d, d < n → C d ≠ 0 → C d = 1) (hAB : ∀ d, d < n → A d ≠ B d) (hg : f goal = 0) : ∀ (k u : Nat), wk A B T C n u (bf_pt A B (fun u => bf_nx (fun d => bf_tb A B T C f d u) n) goal k u) goal → (bf_pt A B (fun u => bf_nx (fun d => bf_tb A B T C f d u) n) goal k u).length = f u := by
  intro k
  induction k with
  | zero =>
    intro u h
    have h : u = goal := h
    rw [h, hg]
    rfl
  | succ k ih =>
    intro u h
    unfold bf_pt at h ⊢
    by_cases z : u = goal
    · rw [if_pos z, z, hg]
      rfl
    · rw [if_neg z] at h ⊢
      rcases e : bf_nx (fun d => bf_tb A B T C f d u) n with _ | d
      · simp only [e] at h
        exact absurd h z
      · simp only [e] at h ⊢
        obtain ⟨d1, d2, _⟩ := bf_nx_some.mp e
        obtain ⟨t1, t2⟩ := bf_tb_iff.mp d2
        have c1 := hC d d1 t1
        obtain ⟨_, _, w⟩ := h
        simp only [List.length_cons]
        by_cases y : A d = u
        · rw [if_pos y] at w ⊢
          have w' : wk A B T C n (B d) (bf_pt A B (fun u => bf_nx (fun d => bf_tb A B T C f d u) n) goal k (B d)) goal := by
            rcases w with w | w
            · exact w.2
            · exact absurd (y.trans w.2.2.1.symm) (hAB d d1)
          rw [ih _ w']
          rcases t2 with t | t
          · omega
          · exact absurd (y.trans t.2.1.symm) (hAB d d1)
        · rw [if_neg y] at w ⊢
          have w' : wk A B T C n (A d) (bf_pt A B (fun u => bf_nx (fun d => bf_tb A B T C f d u) n) goal k (A d)) goal := by
            rcases w with w | w
            · exact absurd w.1 y
            · exact w.2.2.2
          rw [ih _ w']
          rcases t2 with t | t
          · exact absurd t.1 y
          · omega
def dF (ν : m2M) (n a b : Nat) : Nat := wy_f (hA ν) (hB ν) (hT ν) (fun d => if hO ν d = true then 1 else 0) n 268435456 b a
theorem dF_eq {ν μ : m2M} {n p a b : Nat} (h : RLn ν μ n p) (ha : a < 12) (hb : b < 12) : dF ν n a b = (match dO ν n a b with
    | none => 268435456
    | some x => x) := by
  have hF := wy_F (T := hT ν) (C := fun d => if hO ν d = true then 1 else 0) (far := 268435456) h.N h.AB hb
  unfold dO
  rcases e : wyU ν n (hO ν) a b with _ | l
  · have e' := e
    unfold wyU wy at e
    by_cases q : wy_f (hA ν) (hB ν) (hT ν) (fun d => if hO ν d = true then 1 else 0) n 268435456 b a < 268435456
    · rw [if_pos q] at e; cases e
    · have := hF.2.1 a
      show dF ν n a b = 268435456
      unfold dF
      omega
  · have e' := e
    unfold wyU wy at e
    by_cases q : wy_f (hA ν) (hB ν) (hT ν) (fun d => if hO ν d = true then 1 else 0) n 268435456 b a < 268435456
    · rw [if_pos q] at e
      have wko := (wy_ok h.N h.AB hb ha e').1
      cases e
      exact (bf_pt_len (fun d _ q => by
        by_cases z : hO ν d = true
        · simp only [if_pos z]
        · simp only [if_neg z] at q; exact absurd rfl q) h.AB hF.1 12 a wko).symm
    · rw [if_neg q] at e; cases e
theorem tvS_congr {d : Nat → Nat → Option Nat} : ∀ {k : Nat} {S S' : Nat → Bool} {room : Nat}, (∀ r, r < 12 → S r = S' r) → tvS d k S room = tvS d k S' room
  | 0, _, _, _, _ => rfl
  | k + 1, S, S', room, h => by
    have key : ∀ (N : Nat) (c c' : Nat → tB), (∀ r, r < N → c r = c' r) → tvL c N = tvL c' N := by
      intro N c c' hc
      induction N with
      | zero => rfl
      | succ N ih =>
        show mrg (tvL c N) (c N) = mrg (tvL c' N) (c' N)
        rw [ih (fun r hr => hc r (by omega)), hc N (by omega)]
    refine key 12 _ _ (fun r hr => ?_)
    rw [h r hr]
    have : tvS d k (rmB S r) r = tvS d k (rmB S' r) r := tvS_congr (fun j hj => by unfold rmB; rw [h j hj])
    rw [this]
/-- over the ROOMS, or over their numbers -/
theorem tvL_ix {g : Nat → Bool} {rm : Nat → Nat} {c : Nat → tB} (hrm : ∀ r, r < 12 → g r = true → rm (cnb g r) = r) (hc : ∀ r, r < 12 → g r = false → c r = none) : ∀ N, N ≤ 12 → tvL c N = tvL (fun i => c (rm i)) (cnb g N)
  | 0, _ => rfl
  | N + 1, hN => by
    show mrg (tvL c N) (c N) = _
    rw [tvL_ix hrm hc N (by omega)]
    cases e : g N with
    | false =>
      have : cnb g (N + 1) = cnb g N := by
        show cnb g N + (if g N = true then 1 else 0) = _
        rw [e]
        rfl
      rw [this, hc N (by omega) e]
      rfl
    | true =>
      have : cnb g (N + 1) = cnb g N + 1 := by
        show cnb g N + (if g N = true then 1 else 0) = _
        rw [e]
        rfl
      rw [this]
      show _ = mrg (tvL (fun i => c (rm i)) (cnb g N)) (c (rm (cnb g N)))
      rw [hrm N (by omega) e]
theorem tvL_congr {c c' : Nat → tB} : ∀ {N : Nat}, (∀ r, r < N → c r = c' r) → tvL c N = tvL c' N
  | 0, _ => rfl
  | N + 1, hc => by
    show mrg (tvL c N) (c N) = mrg (tvL c' N) (c' N)
    rw [tvL_congr (fun r hr => hc r (by omega)), hc N (by omega)]
def vlB (o : tB) : Nat := match o with
  | none => 268435456
  | some q => q.1
theorem vlB_mrg {a b : tB} (ha : vlB a ≤ 268435456) (hb : vlB b ≤ 268435456) : vlB (mrg a b) = min (vlB a) (vlB b) := by
  cases b with
  | none =>
    show vlB a = min (vlB a) 268435456
    omega
  | some q =>
    cases a with
    | none =>
      have hb : q.1 ≤ 268435456 := hb
      show q.1 = min 268435456 q.1
      omega
    | some q0 =>
      show vlB (if q.1 < q0.1 then some q else some q0) = min q0.1 q.1
      by_cases z : q.1 < q0.1
      · rw [if_pos z]; show q.1 = _; omega
      · rw [if_neg z]; show q0.1 = _; omega
