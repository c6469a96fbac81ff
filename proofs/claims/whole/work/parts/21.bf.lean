/-! WAYS: the relaxing of DOORS, its fixed point, that 11 passes reach it, that it is the only one -/
def bf_rx (a b : Nat) (t : Bool) (c : Nat) (x : Nat → Nat) : Nat → Nat :=
  if c = 0 then x else if x b + c < x a then (fun u => if u = a then x b + c else x u) else if t = true ∧ x a + c < x b then (fun u => if u = b then x a + c else x u) else x
def bf_ps (A B : Nat → Nat) (T : Nat → Bool) (C : Nat → Nat) : Nat → (Nat → Nat) → Nat → Nat
  | 0, x => x
  | n + 1, x => bf_rx (A n) (B n) (T n) (C n) (bf_ps A B T C n x)
def bf_it (A B : Nat → Nat) (T : Nat → Bool) (C : Nat → Nat) (n : Nat) : Nat → (Nat → Nat) → Nat → Nat
  | 0, x => x
  | k + 1, x => bf_ps A B T C n (bf_it A B T C n k x)
def bf_in (far goal : Nat) : Nat → Nat := fun u => if u = goal then 0 else far
/-- one comes from u to v by a DOOR that costs w -/
def bf_E (A B : Nat → Nat) (T : Nat → Bool) (C : Nat → Nat) (n u v w : Nat) : Prop := ∃ d, d < n ∧ C d ≠ 0 ∧ w = C d ∧ ((A d = u ∧ B d = v) ∨ (T d = true ∧ B d = u ∧ A d = v))
theorem bf_E.mono {A B : Nat → Nat} {T : Nat → Bool} {C : Nat → Nat} {n m u v w : Nat} (h : bf_E A B T C n u v w) (hm : n ≤ m) : bf_E A B T C m u v w := by
  obtain ⟨d, h1, h2⟩ := h
  exact ⟨d, by omega, h2⟩
theorem bf_rx_le (a b : Nat) (t : Bool) (c : Nat) (x : Nat → Nat) (u : Nat) : bf_rx a b t c x u ≤ x u := by
  unfold bf_rx
  split
  · exact Nat.le_refl _
  · split
    · dsimp only
      split
      · subst_vars; omega
      · exact Nat.le_refl _
    · split
      · rename_i h
        dsimp only
        split
        · subst_vars; omega
        · exact Nat.le_refl _
      · exact Nat.le_refl _
theorem bf_ps_le (A B : Nat → Nat) (T : Nat → Bool) (C : Nat → Nat) : ∀ (n : Nat) (x : Nat → Nat) (u : Nat), bf_ps A B T C n x u ≤ x u
  | 0, _, _ => Nat.le_refl _
  | n + 1, x, u => Nat.le_trans (bf_rx_le _ _ _ _ _ u) (bf_ps_le A B T C n x u)
theorem bf_rx_a {a b : Nat} {t : Bool} {c : Nat} {x : Nat → Nat} (hc : c ≠ 0) : bf_rx a b t c x a ≤ c + x b := by
  unfold bf_rx
  rw [if_neg hc]
  split
  · simp; omega
  · split
    · rename_i h1 h2
      dsimp only
      split
      · rename_i h3
        rw [h3] at h2
        omega
      · omega
    · omega
theorem bf_rx_b {a b : Nat} {t : Bool} {c : Nat} {x : Nat → Nat} (hc : c ≠ 0) (ht : t = true) : bf_rx a b t c x b ≤ c + x a := by
  unfold bf_rx
  rw [if_neg hc]
  split
  · dsimp only
    split
    · rename_i h1 h2
      rw [h2] at h1 ⊢
      omega
    · omega
  · split
    · simp; omega
    · rename_i h1 h2
      have : ¬ x a + c < x b := fun q => h2 ⟨ht, q⟩
      omega
theorem bf_ps_edge {A B : Nat → Nat} {T : Nat → Bool} {C : Nat → Nat} : ∀ {n u v w : Nat} {x : Nat → Nat}, bf_E A B T C n u v w → bf_ps A B T C n x u ≤ w + x v
  | 0, u, v, w, x, h => by obtain ⟨d, h1, _⟩ := h; omega
  | n + 1, u, v, w, x, h => by
    obtain ⟨d, h1, h2, h3, h4⟩ := h
    by_cases hd : d < n
    · exact Nat.le_trans (bf_rx_le _ _ _ _ _ u) (bf_ps_edge ⟨d, hd, h2, h3, h4⟩)
    · have : d = n := by omega
      subst this
      have hv := bf_ps_le A B T C d x
      rcases h4 with ⟨rfl, rfl⟩ | ⟨ht, rfl, rfl⟩
      · have := bf_rx_a (a := A d) (b := B d) (t := T d) (x := bf_ps A B T C d x) h2
        have h5 := hv (B d)
        show bf_rx (A d) (B d) (T d) (C d) (bf_ps A B T C d x) (A d) ≤ _
        omega
      · have := bf_rx_b (a := A d) (b := B d) (t := T d) (x := bf_ps A B T C d x) h2 ht
        have h5 := hv (A d)
        show bf_rx (A d) (B d) (T d) (C d) (bf_ps A B T C d x) (B d) ≤ _
        omega
/-- what holds of the numbers at all times -/
def bf_I (A B : Nat → Nat) (T : Nat → Bool) (C : Nat → Nat) (n far goal : Nat) (x : Nat → Nat) : Prop := x goal = 0 ∧ (∀ u, x u ≤ far) ∧ ∀ u, u ≠ goal → x u < far → ∃ v w, bf_E A B T C n u v w ∧ w + x v ≤ x u
theorem bf_I_in (A B : Nat → Nat) (T : Nat → Bool) (C : Nat → Nat) (n far goal : Nat) : bf_I A B T C n far goal (bf_in far goal) := by
  refine ⟨by simp [bf_in], fun u => ?_, fun u h1 h2 => ?_⟩
  · unfold bf_in
    split <;> omega
  · simp [bf_in, h1] at h2
theorem bf_I_rx {A B : Nat → Nat} {T : Nat → Bool} {C : Nat → Nat} {n far goal d : Nat} {x : Nat → Nat} (hd : d < n) (hAB : A d ≠ B d) (h : bf_I A B T C n far goal x) : bf_I A B T C n far goal (bf_rx (A d) (B d) (T d) (C d) x) := by
  obtain ⟨h1, h2, h3⟩ := h
  have hle := bf_rx_le (A d) (B d) (T d) (C d) x
  refine ⟨by have := hle goal; omega, fun u => Nat.le_trans (hle u) (h2 u), fun u hu hf => ?_⟩
  have old : x u ≤ bf_rx (A d) (B d) (T d) (C d) x u → ∃ v w, bf_E A B T C n u v w ∧ w + bf_rx (A d) (B d) (T d) (C d) x v ≤ bf_rx (A d) (B d) (T d) (C d) x u := by
    intro q
    obtain ⟨v, w, e1, e2⟩ := h3 u hu (by have := hle u; omega)
    exact ⟨v, w, e1, by have := hle v; omega⟩
  by_cases hc : C d = 0
  · exact old (by unfold bf_rx; rw [if_pos hc]; exact Nat.le_refl _)
  by_cases c1 : x (B d) + C d < x (A d)
  · by_cases hua : u = A d
    · refine ⟨B d, C d, ⟨d, hd, hc, rfl, Or.inl ⟨hua.symm, rfl⟩⟩, ?_⟩
      unfold bf_rx
      rw [if_neg hc, if_pos c1]
      simp [hua, Ne.symm hAB]
      omega
    · exact old (by unfold bf_rx; rw [if_neg hc, if_pos c1]; simp [hua])
  · by_cases c2 : T d = true ∧ x (A d) + C d < x (B d)
    · by_cases hub : u = B d
      · refine ⟨A d, C d, ⟨d, hd, hc, rfl, Or.inr ⟨c2.1, hub.symm, rfl⟩⟩, ?_⟩
        unfold bf_rx
        rw [if_neg hc, if_neg c1, if_pos c2]
        simp [hub, hAB]
        omega
      · exact old (by unfold bf_rx; rw [if_neg hc, if_neg c1, if_pos c2]; simp [hub])
    · exact old (by unfold bf_rx; rw [if_neg hc, if_neg c1, if_neg c2]; exact Nat.le_refl _)
theorem bf_I_ps {A B : Nat → Nat} {T : Nat → Bool} {C : Nat → Nat} {n far goal : Nat} (hAB : ∀ d, d < n → A d ≠ B d) : ∀ {m : Nat} {x : Nat → Nat}, m ≤ n → bf_I A B T C n far goal x → bf_I A B T C n far goal (bf_ps A B T C m x)
  | 0, _, _, h => h
  | m + 1, _, hm, h => bf_I_rx (by omega) (hAB m (by omega)) (bf_I_ps hAB (by omega) h)
theorem bf_I_it {A B : Nat → Nat} {T : Nat → Bool} {C : Nat → Nat} {n far goal : Nat} (hAB : ∀ d, d < n → A d ≠ B d) {x : Nat → Nat} (h : bf_I A B T C n far goal x) : ∀ k, bf_I A B T C n far goal (bf_it A B T C n k x)
  | 0 => h
  | k + 1 => bf_I_ps hAB (Nat.le_refl n) (bf_I_it hAB h k)
theorem bf_it_le (A B : Nat → Nat) (T : Nat → Bool) (C : Nat → Nat) (n : Nat) (x : Nat → Nat) (u k : Nat) : ∀ j, bf_it A B T C n (k + j) x u ≤ bf_it A B T C n k x u
  | 0 => Nat.le_refl _
  | j + 1 => Nat.le_trans (bf_ps_le A B T C n _ u) (bf_it_le A B T C n x u k j)
/-- where nothing is but the ROOMS, nothing changes -/
theorem bf_rx_out {a b : Nat} {t : Bool} {c : Nat} {x : Nat → Nat} {u : Nat} (ha : u ≠ a) (hb : u ≠ b) : bf_rx a b t c x u = x u := by
  unfold bf_rx
  split
  · rfl
  · split
    · simp [ha]
    · split
      · simp [hb]
      · rfl
theorem bf_ps_out {A B : Nat → Nat} {T : Nat → Bool} {C : Nat → Nat} {N : Nat} {u : Nat} (hu : N ≤ u) : ∀ {n : Nat} {x : Nat → Nat}, (∀ d, d < n → A d < N ∧ B d < N) → bf_ps A B T C n x u = x u
  | 0, _, _ => rfl
  | n + 1, x, h => by
    have h1 := h n (by omega)
    show bf_rx (A n) (B n) (T n) (C n) (bf_ps A B T C n x) u = x u
    rw [bf_rx_out (by omega) (by omega)]
    exact bf_ps_out hu (fun d hd => h d (by omega))
def bf_sum (x : Nat → Nat) : Nat → Nat
  | 0 => 0
  | n + 1 => bf_sum x n + x n
theorem bf_sum_le {x y : Nat → Nat} (h : ∀ u, x u ≤ y u) : ∀ n, bf_sum x n ≤ bf_sum y n
  | 0 => Nat.le_refl _
  | n + 1 => Nat.add_le_add (bf_sum_le h n) (h n)
theorem bf_sum_lt {x y : Nat → Nat} (h : ∀ u, x u ≤ y u) {u : Nat} (hu : x u < y u) : ∀ {n}, u < n → bf_sum x n < bf_sum y n
  | 0, q => by omega
  | n + 1, q => by
    by_cases e : u = n
    · subst e
      have := bf_sum_le h u
      show bf_sum x u + x u < bf_sum y u + y u
      omega
    · have := bf_sum_lt h hu (n := n) (by omega)
      have := h n
      show bf_sum x n + x n < bf_sum y n + y n
      omega
/-- some number of passes comes to a fixed point -/
theorem bf_stops {A B : Nat → Nat} {T : Nat → Bool} {C : Nat → Nat} {n N : Nat} (hN : ∀ d, d < n → A d < N ∧ B d < N) (x : Nat → Nat) : ∀ (s k : Nat), bf_sum (bf_it A B T C n k x) N ≤ s → ∃ K, ∀ u, bf_ps A B T C n (bf_it A B T C n K x) u = bf_it A B T C n K x u
  | s, k, hs => by
    by_cases h : ∀ u, u < N → bf_ps A B T C n (bf_it A B T C n k x) u = bf_it A B T C n k x u
    · refine ⟨k, fun u => ?_⟩
      by_cases hu : u < N
      · exact h u hu
      · exact bf_ps_out (by omega) hN
    · have h' : ∃ u, u < N ∧ bf_ps A B T C n (bf_it A B T C n k x) u ≠ bf_it A B T C n k x u := by
        apply Classical.byContradiction
        intro q
        exact h (fun u hu => Classical.byContradiction (fun z => q ⟨u, hu, z⟩))
      obtain ⟨u, hu, hne⟩ := h'
      have hlt : bf_ps A B T C n (bf_it A B T C n k x) u < bf_it A B T C n k x u := Nat.lt_of_le_of_ne (bf_ps_le A B T C n _ u) hne
      have h2 := bf_sum_lt (bf_ps_le A B T C n (bf_it A B T C n k x)) hlt hu
      match s, hs with
      | 0, hs => omega
      | s + 1, hs => exact bf_stops hN x s (k + 1) (by show bf_sum (bf_ps A B T C n (bf_it A B T C n k x)) N ≤ s; omega)
/-- how many ROOMS are nearer -/
def bf_rk (f : Nat → Nat) (u : Nat) : Nat → Nat
  | 0 => 0
  | n + 1 => bf_rk f u n + if f n < f u then 1 else 0
theorem bf_rk_le (f : Nat → Nat) (u : Nat) : ∀ n, bf_rk f u n ≤ n
  | 0 => Nat.le_refl _
  | n + 1 => by
    have := bf_rk_le f u n
    show bf_rk f u n + _ ≤ n + 1
    split <;> omega
theorem bf_rk_self (f : Nat → Nat) (u : Nat) : ∀ {n}, u < n → bf_rk f u n + 1 ≤ n
  | 0, h => by omega
  | n + 1, h => by
    by_cases e : u = n
    · subst e
      have := bf_rk_le f u u
      show bf_rk f u u + (if f u < f u then 1 else 0) + 1 ≤ u + 1
      simp; omega
    · have := bf_rk_self f u (n := n) (by omega)
      show bf_rk f u n + _ + 1 ≤ n + 1
      split <;> omega
theorem bf_rk_mono {f : Nat → Nat} {u v : Nat} (h : f v ≤ f u) : ∀ n, bf_rk f v n ≤ bf_rk f u n
  | 0 => Nat.le_refl _
  | n + 1 => by
    have := bf_rk_mono h n
    show bf_rk f v n + (if f n < f v then 1 else 0) ≤ bf_rk f u n + (if f n < f u then 1 else 0)
    by_cases c1 : f n < f v
    · rw [if_pos c1, if_pos (by omega)]; omega
    · rw [if_neg c1]; omega
theorem bf_rk_lt {f : Nat → Nat} {u v : Nat} (h : f v < f u) : ∀ {n}, v < n → bf_rk f v n < bf_rk f u n
  | 0, q => by omega
  | n + 1, q => by
    show bf_rk f v n + (if f n < f v then 1 else 0) < bf_rk f u n + (if f n < f u then 1 else 0)
    by_cases e : v = n
    · subst e
      have := bf_rk_mono (f := f) (u := u) (v := v) (by omega) v
      rw [if_neg (Nat.lt_irrefl _), if_pos h]
      omega
    · have := bf_rk_lt h (n := n) (by omega)
      by_cases c1 : f n < f v
      · rw [if_pos c1, if_pos (by omega)]; omega
      · rw [if_neg c1]; omega
/-- the fixed point: its laws -/
def bf_F (A B : Nat → Nat) (T : Nat → Bool) (C : Nat → Nat) (n far goal : Nat) (f : Nat → Nat) : Prop := f goal = 0 ∧ (∀ u, f u ≤ far) ∧ (∀ u v w, bf_E A B T C n u v w → f u ≤ w + f v) ∧ ∀ u, u ≠ goal → f u < far → ∃ v w, bf_E A B T C n u v w ∧ f u = w + f v
theorem bf_fix_of {A B : Nat → Nat} {T : Nat → Bool} {C : Nat → Nat} {n far goal : Nat} {f : Nat → Nat} (hI : bf_I A B T C n far goal f) (hf : ∀ u, bf_ps A B T C n f u = f u) : bf_F A B T C n far goal f := by
  have he : ∀ u v w, bf_E A B T C n u v w → f u ≤ w + f v := fun u v w h => by rw [← hf u]; exact bf_ps_edge h
  refine ⟨hI.1, hI.2.1, he, fun u h1 h2 => ?_⟩
  obtain ⟨v, w, e1, e2⟩ := hI.2.2 u h1 h2
  exact ⟨v, w, e1, by have := he u v w e1; omega⟩
theorem bf_E_lt {A B : Nat → Nat} {T : Nat → Bool} {C : Nat → Nat} {n N u v w : Nat} (hN : ∀ d, d < n → A d < N ∧ B d < N) (h : bf_E A B T C n u v w) : u < N ∧ v < N ∧ 0 < w := by
  obtain ⟨d, h1, h2, h3, h4⟩ := h
  have := hN d h1
  rcases h4 with ⟨rfl, rfl⟩ | ⟨-, rfl, rfl⟩ <;> exact ⟨by omega, by omega, by omega⟩
theorem bf_reach {A B : Nat → Nat} {T : Nat → Bool} {C : Nat → Nat} {n N far goal K : Nat} (hN : ∀ d, d < n → A d < N ∧ B d < N) (hAB : ∀ d, d < n → A d ≠ B d)
    (hK : ∀ u, bf_ps A B T C n (bf_it A B T C n K (bf_in far goal)) u = bf_it A B T C n K (bf_in far goal) u) : ∀ (m u k : Nat), bf_rk (bf_it A B T C n K (bf_in far goal)) u N ≤ m → m ≤ k → bf_it A B T C n k (bf_in far goal) u = bf_it A B T C n K (bf_in far goal) u := by
  have hF := bf_fix_of (bf_I_it hAB (bf_I_in A B T C n far goal) K) hK
  have hlow : ∀ k u, bf_it A B T C n K (bf_in far goal) u ≤ bf_it A B T C n k (bf_in far goal) u := by
    intro k u
    have hst : ∀ j, ∀ u, bf_it A B T C n (K + j) (bf_in far goal) u = bf_it A B T C n K (bf_in far goal) u := by
      intro j
      induction j with
      | zero => exact fun u => rfl
      | succ j ih =>
        intro u
        show bf_ps A B T C n (bf_it A B T C n (K + j) (bf_in far goal)) u = _
        rw [show bf_it A B T C n (K + j) (bf_in far goal) = bf_it A B T C n K (bf_in far goal) from funext ih]
        exact hK u
    by_cases hk : k ≤ K
    · have := bf_it_le A B T C n (bf_in far goal) u k (K - k)
      rw [show k + (K - k) = K by omega] at this
      exact this
    · have := hst (k - K) u
      rw [show K + (k - K) = k by omega] at this
      omega
  intro m
  induction m with
  | zero =>
    intro u k h1 h2
    by_cases hg : u = goal
    · subst hg
      have a := (bf_I_it hAB (bf_I_in A B T C n far u) k).1
      have b := hF.1
      omega
    · by_cases hf : bf_it A B T C n K (bf_in far goal) u < far
      · obtain ⟨v, w, e1, e2⟩ := hF.2.2.2 u hg hf
        obtain ⟨-, hv, hw⟩ := bf_E_lt hN e1
        have := bf_rk_lt (f := bf_it A B T C n K (bf_in far goal)) (u := u) (v := v) (by omega) hv
        omega
      · have a := (bf_I_it hAB (bf_I_in A B T C n far goal) k).2.1 u
        have b := hlow k u
        have c := hF.2.1 u
        omega
  | succ m ih =>
    intro u k h1 h2
    by_cases hg : u = goal
    · subst hg
      have a := (bf_I_it hAB (bf_I_in A B T C n far u) k).1
      have b := hF.1
      omega
    · by_cases hf : bf_it A B T C n K (bf_in far goal) u < far
      · obtain ⟨v, w, e1, e2⟩ := hF.2.2.2 u hg hf
        obtain ⟨-, hv, hw⟩ := bf_E_lt hN e1
        have hr := bf_rk_lt (f := bf_it A B T C n K (bf_in far goal)) (u := u) (v := v) (by omega) hv
        obtain ⟨k', rfl⟩ : ∃ k', k = k' + 1 := ⟨k - 1, by omega⟩
        have h3 := ih v k' (by omega) (by omega)
        have h4 : bf_it A B T C n (k' + 1) (bf_in far goal) u ≤ w + bf_it A B T C n k' (bf_in far goal) v := bf_ps_edge e1
        have h5 := hlow (k' + 1) u
        omega
      · have a := (bf_I_it hAB (bf_I_in A B T C n far goal) k).2.1 u
        have b := hlow k u
        have c := hF.2.1 u
        omega
/-- N - 1 passes, or more, or as many as change nothing more: the one fixed point -/
theorem bf_all {A B : Nat → Nat} {T : Nat → Bool} {C : Nat → Nat} {n N far goal : Nat} (hN : ∀ d, d < n → A d < N ∧ B d < N) (hAB : ∀ d, d < n → A d ≠ B d) : ∃ f : Nat → Nat, bf_F A B T C n far goal f ∧ (∀ k, N ≤ k + 1 → ∀ u, u < N → bf_it A B T C n k (bf_in far goal) u = f u) ∧ ∀ k, (∀ u, bf_ps A B T C n (bf_it A B T C n k (bf_in far goal)) u = bf_it A B T C n k (bf_in far goal) u) → ∀ u, u < N → bf_it A B T C n k (bf_in far goal) u = f u := by
  obtain ⟨K, hK⟩ := bf_stops (C := C) (T := T) hN (bf_in far goal) _ 0 (Nat.le_refl _)
  have hF := bf_fix_of (bf_I_it hAB (bf_I_in A B T C n far goal) K) hK
  have hr := bf_reach hN hAB hK
  refine ⟨_, hF, fun k hk u hu => hr k u k ?_ (Nat.le_refl _), fun k hk u hu => ?_⟩
  · have := bf_rk_self (bf_it A B T C n K (bf_in far goal)) u hu
    omega
  · have hst : ∀ j, ∀ u, bf_it A B T C n (k + j) (bf_in far goal) u = bf_it A B T C n k (bf_in far goal) u := by
      intro j
      induction j with
      | zero => exact fun u => rfl
      | succ j ih =>
        intro u
        show bf_ps A B T C n (bf_it A B T C n (k + j) (bf_in far goal)) u = _
        rw [show bf_it A B T C n (k + j) (bf_in far goal) = bf_it A B T C n k (bf_in far goal) from funext ih]
        exact hk u
    rw [← hst N u]
    refine hr (k + N) u (k + N) ?_ (Nat.le_refl _)
    have := bf_rk_self (bf_it A B T C n K (bf_in far goal)) u hu
    omega
/-- two that keep the laws are one -/
theorem bf_one_le {A B : Nat → Nat} {T : Nat → Bool} {C : Nat → Nat} {n far goal : Nat} {f g : Nat → Nat} (hf : bf_F A B T C n far goal f) (hg : bf_F A B T C n far goal g) (hw : ∀ u v w, bf_E A B T C n u v w → 0 < w) : ∀ (s u : Nat), g u ≤ s → f u ≤ g u := by
  intro s
  induction s with
  | zero =>
    intro u h
    by_cases hu : u = goal
    · subst hu; have := hf.1; omega
    · by_cases hlt : g u < far
      · obtain ⟨v, w, e1, e2⟩ := hg.2.2.2 u hu hlt
        have := hw _ _ _ e1
        omega
      · have := hf.2.1 u; omega
  | succ s ih =>
    intro u h
    by_cases hu : u = goal
    · subst hu; have := hf.1; omega
    · by_cases hlt : g u < far
      · obtain ⟨v, w, e1, e2⟩ := hg.2.2.2 u hu hlt
        have := hw _ _ _ e1
        have h1 := ih v (by omega)
        have h2 := hf.2.2.1 u v w e1
        omega
      · have := hf.2.1 u; omega
theorem bf_one {A B : Nat → Nat} {T : Nat → Bool} {C : Nat → Nat} {n far goal : Nat} {f g : Nat → Nat} (hf : bf_F A B T C n far goal f) (hg : bf_F A B T C n far goal g) (u : Nat) : f u = g u := by
  have hw : ∀ u v w, bf_E A B T C n u v w → 0 < w := by
    intro u v w h
    obtain ⟨d, h1, h2, h3, h4⟩ := h
    omega
  exact Nat.le_antisymm (bf_one_le hf hg hw _ u (Nat.le_refl _)) (bf_one_le hg hf hw _ u (Nat.le_refl _))
