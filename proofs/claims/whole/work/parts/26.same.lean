/-! two ways of weighing DOORS give one row -/
theorem bf_bound {A B : Nat → Nat} {T : Nat → Bool} {C : Nat → Nat} {n far goal m : Nat} {f : Nat → Nat} (hF : bf_F A B T C n far goal f) (hN : ∀ d, d < n → A d < 12 ∧ B d < 12) (hm : ∀ d, d < n → C d ≤ m) : ∀ (s u : Nat), f u ≤ s → f u < far → f u ≤ bf_rk f u 12 * m := by
  intro s
  induction s with
  | zero => intro u h1 h2; omega
  | succ s ih =>
    intro u h1 h2
    by_cases hu : u = goal
    · subst hu
      rw [hF.1]
      exact Nat.zero_le _
    · obtain ⟨v, w, e1, e2⟩ := hF.2.2.2 u hu h2
      obtain ⟨-, hv, hw⟩ := bf_E_lt hN e1
      obtain ⟨d, d1, d2, d3, -⟩ := e1
      have hr := bf_rk_lt (f := f) (u := u) (v := v) (by omega) hv
      have h3 := ih v (by omega) (by omega)
      have h4 := hm d d1
      have h5 : (bf_rk f v 12 + 1) * m ≤ bf_rk f u 12 * m := Nat.mul_le_mul_right m hr
      rw [Nat.add_mul, Nat.one_mul] at h5
      omega
theorem bf_mod {A B : Nat → Nat} {T : Nat → Bool} {C : Nat → Nat} {n far goal : Nat} {f : Nat → Nat} (hF : bf_F A B T C n far goal f) (hN : ∀ d, d < n → A d < 12 ∧ B d < 12) (hm : ∀ d, d < n → C d ≠ 0 → C d % 16 = 1) : ∀ (s u : Nat), f u ≤ s → u < 12 → f u < far → f u % 16 ≤ bf_rk f u 12 := by
  intro s
  induction s with
  | zero => intro u h1 h2 h3; have : f u = 0 := by omega
            rw [this]; exact Nat.zero_le _
  | succ s ih =>
    intro u h1 h0 h2
    by_cases hu : u = goal
    · subst hu
      rw [hF.1]
      exact Nat.zero_le _
    · obtain ⟨v, w, e1, e2⟩ := hF.2.2.2 u hu h2
      obtain ⟨-, hv, hw⟩ := bf_E_lt hN e1
      obtain ⟨d, d1, d2, d3, -⟩ := e1
      have hr := bf_rk_lt (f := f) (u := u) (v := v) (by omega) hv
      have hru := bf_rk_self f u h0
      have h3 := ih v (by omega) hv (by omega)
      have h4 := hm d d1 d2
      omega
theorem bf_pt_congr {A B : Nat → Nat} {nx nx' : Nat → Option Nat} {goal : Nat} {P : Nat → Prop} (h1 : ∀ u, P u → u ≠ goal → nx u = nx' u) (h2 : ∀ u d, P u → u ≠ goal → nx u = some d → P (if A d = u then B d else A d)) : ∀ (k u : Nat), P u → bf_pt A B nx goal k u = bf_pt A B nx' goal k u
  | 0, _, _ => rfl
  | k + 1, u, hu => by
    unfold bf_pt
    by_cases hg : u = goal
    · rw [if_pos hg, if_pos hg]
    · rw [if_neg hg, if_neg hg, ← h1 u hu hg]
      cases hn : nx u with
      | none => rfl
      | some d =>
        show d :: _ = d :: _
        rw [bf_pt_congr h1 h2 k _ (h2 u d hu hg hn)]
theorem wy_same {A B : Nat → Nat} {T : Nat → Bool} {C C' : Nat → Nat} {n far far' frm goal : Nat} {Φ : Nat → Nat} (hN : ∀ d, d < n → A d < 12 ∧ B d < 12) (hAB : ∀ d, d < n → A d ≠ B d) (hfrm : frm < 12) (hgoal : goal < 12) (hfar : 0 < far)
    (hmono : ∀ x y, x < y → Φ x < Φ y) (h0 : Φ 0 = 0) (huse : ∀ d, d < n → (C d = 0 ↔ C' d = 0)) (hadd : ∀ d v, d < n → v < 12 → C d ≠ 0 → wy_f A B T C n far goal v < far → Φ (wy_f A B T C n far goal v + C d) = Φ (wy_f A B T C n far goal v) + C' d)
    (hb : ∀ d v, d < n → v < 12 → wy_f A B T C n far goal v < far → wy_f A B T C n far goal v + C d < far) (hb' : ∀ u, u < 12 → wy_f A B T C n far goal u < far → Φ (wy_f A B T C n far goal u) < far') : wy A B T C n far frm goal = wy A B T C' n far' frm goal := by
  have hF := wy_F (T := T) (C := C) (far := far) hN hAB hgoal
  have hF' := wy_F (T := T) (C := C') (far := far') hN hAB hgoal
  unfold wy
  generalize hff : wy_f A B T C n far goal = f at *
  generalize hff' : wy_f A B T C' n far' goal = f' at *
  have hinj : ∀ x y, Φ x = Φ y → x = y := by
    intro x y h
    rcases Nat.lt_trichotomy x y with z | z | z
    · have := hmono x y z; omega
    · exact z
    · have := hmono y x z; omega
  have hle : ∀ x y, x ≤ y → Φ x ≤ Φ y := by
    intro x y h
    rcases Nat.lt_or_eq_of_le h with z | z
    · exact Nat.le_of_lt (hmono x y z)
    · rw [z]; exact Nat.le_refl _
  -- out of the ROOMS nothing is near
  have hout : ∀ u, 12 ≤ u → ¬ f u < far := by
    intro u hu z
    obtain ⟨v, w, e1, -⟩ := hF.2.2.2 u (by omega) z
    have := (bf_E_lt hN e1).1
    omega
  have key : bf_F A B T C' n far' goal (fun u => if f u < far then Φ (f u) else far') := by
    refine ⟨?_, fun u => ?_, fun u v w he => ?_, fun u hu hlt => ?_⟩
    · have hz : f goal < far := by rw [hF.1]; exact hfar
      show (if f goal < far then Φ (f goal) else far') = 0
      rw [if_pos hz, hF.1, h0]
    · dsimp only
      split
      · rename_i z
        by_cases hu : u < 12
        · exact Nat.le_of_lt (hb' u hu z)
        · exact absurd z (hout u (by omega))
      · exact Nat.le_refl _
    · obtain ⟨hu, hv, -⟩ := bf_E_lt hN he
      obtain ⟨d, d1, d2, d3, d4⟩ := he
      have hc : C d ≠ 0 := fun z => d2 ((huse d d1).mp z)
      dsimp only
      by_cases hfv : f v < far
      · rw [if_pos hfv]
        have h1 := hF.2.2.1 u v (C d) ⟨d, d1, hc, rfl, d4⟩
        have h2 := hb d v d1 hv hfv
        rw [if_pos (by omega)]
        have h3 := hle (f u) (f v + C d) (by omega)
        rw [hadd d v d1 hv hc hfv] at h3
        omega
      · rw [if_neg hfv]
        by_cases hfu : f u < far
        · rw [if_pos hfu]
          have := hb' u hu hfu
          omega
        · rw [if_neg hfu]
          omega
    · dsimp only at hlt ⊢
      have hfu : f u < far := by
        apply Classical.byContradiction
        intro z
        rw [if_neg z] at hlt
        omega
      obtain ⟨v, w, ⟨d, d1, d2, d3, d4⟩, e2⟩ := hF.2.2.2 u hu hfu
      have hv : v < 12 := (bf_E_lt hN (⟨d, d1, d2, d3, d4⟩ : bf_E A B T C n u v w)).2.1
      refine ⟨v, C' d, ⟨d, d1, fun z => d2 ((huse d d1).mpr z), rfl, d4⟩, ?_⟩
      have hfv : f v < far := by omega
      rw [if_pos hfu, if_pos hfv, e2, d3, Nat.add_comm, hadd d v d1 hv d2 hfv, Nat.add_comm]
  have hone := bf_one hF' key
  have hlt : f frm < far ↔ f' frm < far' := by
    rw [hone frm]
    by_cases z : f frm < far
    · simp only [if_pos z]
      exact ⟨fun _ => hb' frm hfrm z, fun _ => z⟩
    · simp only [if_neg z]
      exact ⟨fun q => absurd q z, fun q => absurd q (Nat.lt_irrefl _)⟩
  by_cases hz : f frm < far
  · rw [if_pos hz, if_pos (hlt.mp hz)]
    congr 1
    refine bf_pt_congr (P := fun u => u < 12 ∧ f u < far) (fun u hu hg => ?_) (fun u d hu hg hd => ?_) 12 frm ⟨hfrm, hz⟩
    · refine bf_nx_congr (fun d hd => ?_)
      have hdd := hN d hd
      have hAd := hAB d hd
      have side : ∀ v, v < 12 → C d ≠ 0 → (f u = f v + C d ↔ f' u = f' v + C' d) := by
        intro v hv hc
        rw [hone u, hone v]
        simp only [if_pos hu.2]
        by_cases hfv : f v < far
        · rw [if_pos hfv, ← hadd d v hd hv hc hfv]
          exact ⟨fun q => by rw [q], fun q => hinj _ _ q⟩
        · rw [if_neg hfv]
          have h1 := hb' u hu.1 hu.2
          have h2 := hF.2.1 v
          have h3 := hu.2
          constructor
          · intro q; omega
          · intro q; omega
      apply Bool.eq_iff_iff.mpr
      rw [bf_tb_iff, bf_tb_iff]
      constructor
      · rintro ⟨c1, c2⟩
        refine ⟨fun z => c1 ((huse d hd).mpr z), ?_⟩
        rcases c2 with ⟨q1, q2⟩ | ⟨t, q1, q2⟩
        · exact Or.inl ⟨q1, (side _ hdd.2 c1).mp q2⟩
        · exact Or.inr ⟨t, q1, (side _ hdd.1 c1).mp q2⟩
      · rintro ⟨c1, c2⟩
        have c3 : C d ≠ 0 := fun z => c1 ((huse d hd).mp z)
        refine ⟨c3, ?_⟩
        rcases c2 with ⟨q1, q2⟩ | ⟨t, q1, q2⟩
        · exact Or.inl ⟨q1, (side _ hdd.2 c3).mpr q2⟩
        · exact Or.inr ⟨t, q1, (side _ hdd.1 c3).mpr q2⟩
    · obtain ⟨g1, g2, g3⟩ := bf_nx_some.mp hd
      have hdd := hN d g1
      have hAd := hAB d g1
      have h3 := hu.2
      obtain ⟨c1, c2⟩ := bf_tb_iff.mp g2
      rcases c2 with ⟨rfl, q⟩ | ⟨t, rfl, q⟩
      · rw [if_pos rfl]
        exact ⟨hdd.2, by omega⟩
      · rw [if_neg hAd]
        exact ⟨hdd.1, by omega⟩
  · rw [if_neg hz, if_neg (fun q => hz (hlt.mpr q))]

/-- open ways: 1 a DOOR, or 1001 -/
theorem wy_open {A B : Nat → Nat} {T : Nat → Bool} {U : Nat → Bool} {n frm goal : Nat} (hN : ∀ d, d < n → A d < 12 ∧ B d < 12) (hAB : ∀ d, d < n → A d ≠ B d) (hfrm : frm < 12) (hgoal : goal < 12) : wy A B T (fun d => if U d = true then 1 else 0) n 268435456 frm goal = wy A B T (fun d => if U d = true then 1001 else 0) n 1125899906842624 frm goal := by
  have hF := wy_F (T := T) (C := fun d => if U d = true then 1 else 0) (far := 268435456) hN hAB hgoal
  have hbd : ∀ u, u < 12 → wy_f A B T (fun d => if U d = true then 1 else 0) n 268435456 goal u < 268435456 → wy_f A B T (fun d => if U d = true then 1 else 0) n 268435456 goal u ≤ 11 := by
    intro u hu h
    have h1 := bf_bound hF hN (m := 1) (fun d _ => by split <;> omega) _ u (Nat.le_refl _) h
    have h2 := bf_rk_self (wy_f A B T (fun d => if U d = true then 1 else 0) n 268435456 goal) u hu
    omega
  refine wy_same (Φ := fun x => 1001 * x) hN hAB hfrm hgoal (by decide) (fun x y h => by show 1001 * x < 1001 * y; omega) rfl (fun d hd => ?_) (fun d v hd hv hc hf => ?_) (fun d v hd hv hf => ?_) (fun u hu hf => ?_)
  · split <;> simp
  · split
    · omega
    · rename_i z; rw [if_neg z] at hc; exact absurd rfl hc
  · have := hbd v hv hf
    split <;> omega
  · have := hbd u hu hf
    show 1001 * _ < _
    omega
/-- plans: 16 a unit and 1 a DOOR, or 1000 a unit and 1 a DOOR -/
theorem wy_plan {A B : Nat → Nat} {T : Nat → Bool} {U : Nat → Bool} {S : Nat → Nat} {n frm goal : Nat} (hN : ∀ d, d < n → A d < 12 ∧ B d < 12) (hAB : ∀ d, d < n → A d ≠ B d) (hfrm : frm < 12) (hgoal : goal < 12) (hS : ∀ d, d < n → S d ≤ 9999) : wy A B T (fun d => if U d = true then S d * 16 + 1 else 0) n 268435456 frm goal = wy A B T (fun d => if U d = true then S d * 1000 + 1 else 0) n 1125899906842624 frm goal := by
  have hF := wy_F (T := T) (C := fun d => if U d = true then S d * 16 + 1 else 0) (far := 268435456) hN hAB hgoal
  have hbd : ∀ u, u < 12 → wy_f A B T (fun d => if U d = true then S d * 16 + 1 else 0) n 268435456 goal u < 268435456 → wy_f A B T (fun d => if U d = true then S d * 16 + 1 else 0) n 268435456 goal u ≤ 1759835 ∧ wy_f A B T (fun d => if U d = true then S d * 16 + 1 else 0) n 268435456 goal u % 16 ≤ 11 := by
    intro u hu h
    have h1 := bf_bound hF hN (m := 159985) (fun d hd => by have := hS d hd; split <;> omega) _ u (Nat.le_refl _) h
    have h3 := bf_mod hF hN (fun d hd hc => by split; omega; rename_i z; rw [if_neg z] at hc; exact absurd rfl hc) _ u (Nat.le_refl _) hu h
    have h2 := bf_rk_self (wy_f A B T (fun d => if U d = true then S d * 16 + 1 else 0) n 268435456 goal) u hu
    omega
  refine wy_same (Φ := fun x => x / 16 * 1000 + x % 16) hN hAB hfrm hgoal (by decide) (fun x y h => by show x / 16 * 1000 + x % 16 < y / 16 * 1000 + y % 16; omega) rfl (fun d hd => ?_) (fun d v hd hv hc hf => ?_) (fun d v hd hv hf => ?_) (fun u hu hf => ?_)
  · split <;> simp
  · have h1 := hbd v hv hf
    split
    · generalize wy_f A B T (fun d => if U d = true then S d * 16 + 1 else 0) n 268435456 goal v = x at *
      omega
    · rename_i z; rw [if_neg z] at hc; exact absurd rfl hc
  · have := hbd v hv hf
    have h2 := hS d hd
    split <;> omega
  · have := hbd u hu hf
    omega
