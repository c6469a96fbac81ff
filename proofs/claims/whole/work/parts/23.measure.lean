/-! Routes.measure: the fixed point stands in dist -/
theorem bf_ps_bound {A B : Nat → Nat} {T : Nat → Bool} {C : Nat → Nat} {n far : Nat} {x : Nat → Nat} (h : ∀ u, x u ≤ far) (u : Nat) : bf_ps A B T C n x u ≤ far := Nat.le_trans (bf_ps_le A B T C n x u) (h u)
theorem nI_add3 {a b : Nat} {x y : Int32} (hx : x = nI a) (hy : y = nI b) : x + y = nI (a + b) := by rw [hx, hy, nI_add]
set_option maxHeartbeats 4000000 in
theorem S_measure {D n goal : Nat} (hD : 1 ≤ D) {A B : Nat → Nat} {T : Nat → Bool} {C : Nat → Nat} {f : Nat → Nat} (μ : m2M) (hg : cg μ n A B T) (hc : cc_ μ n C) (hgoal : goal < 12) (hf : bf_F A B T C n 268435456 goal f) : m2_MT D yX8_measure cX8_measure 7 none [.ref kR, .int (nI goal)] μ (fun _ μ' => ∃ g : Nat → Int32, μ' = m2_sr μ kR_dist g ∧ ∀ u, u < 12 → g u = nI (f u)) := by
  obtain ⟨D, rfl⟩ : ∃ E, D = E + 1 := ⟨D - 1, by omega⟩
  obtain ⟨hn, hn20, hd⟩ := hg
  have hN : ∀ d, d < n → A d < 12 ∧ B d < 12 := fun d h => ⟨(hd d h).2.1, (hd d h).2.2.2.1⟩
  have hAB : ∀ d, d < n → A d ≠ B d := fun d h => (hd d h).2.2.2.2.1
  obtain ⟨f', hF', hall, hstop⟩ := bf_all (T := T) (C := C) (n := n) (N := 12) (far := 268435456) (goal := goal) hN hAB
  have hff : ∀ u, f' u = f u := bf_one hF' hf
  refine m2_MT.intro (ls := [.ref kR, .int (nI goal), .null, .null, .null, .null, .null]) (by decide +kernel) rfl (Nat.le_of_ble_eq_true rfl) (fun κ h => ?_)
  -- the inner loop: the DOORS from d on, over x0
  have inner : ∀ (i d : Nat) (v2 v3 : Int32) (x0 : Nat → Nat) (g : Nat → Int32), d + i = n → (∀ u, x0 u ≤ 268435456) → (∀ u, u < 12 → g u = nI (bf_ps A B T C d x0 u)) → (v2 = 0 ∨ v2 = 1) → (v2 = 0 → ∀ u, bf_ps A B T C d x0 u = x0 u) →
      (∀ (w2 : Int32) (g' : Nat → Int32), (∀ u, u < 12 → g' u = nI (bf_ps A B T C n x0 u)) → (w2 = 0 ∨ w2 = 1) → (w2 = 0 → ∀ u, bf_ps A B T C n x0 u = x0 u) → κ 20 [.ref kR, .int (nI goal), .int w2, .int (v3 + 1), .null, .null, .null] [] (m2_sr μ kR_dist g')) →
      κ 35 [.ref kR, .int (nI goal), .int v2, .int v3, .int (nI d), .null, .null] [] (m2_sr μ kR_dist g) := by
    intro i
    induction i with
    | zero =>
      intro d v2 v3 x0 g hdi hx0 hgx hv hv0 kk
      have hdn : d = n := by omega
      subst hdn
      refine B_X8_measure_35 h ⟨fun _ => kk v2 g hgx hv hv0, fun q => absurd (show μ.1 kD 6 ≤ nI d by rw [hn]; exact nI_le (Nat.le_refl d) (by omega)) q⟩
    | succ i ih =>
      intro d v2 v3 x0 g hdi hx0 hgx hv hv0 kk
      have hlt : d < n := by omega
      obtain ⟨ea, hA, eb, hB, hab, et⟩ := hd d hlt
      obtain ⟨ec, hC⟩ := hc d hlt
      have hle := fun u => bf_ps_bound (A := A) (B := B) (T := T) (C := C) (n := d) hx0 u
      have step : ∀ u, bf_ps A B T C (d + 1) x0 u = bf_rx (A d) (B d) (T d) (C d) (bf_ps A B T C d x0) u := fun _ => rfl
      have cl : (nI d).toNatClampNeg = d := nI_clamp (by omega)
      have e1 : (m2_sr μ kR_dist g).1 kR_cost d = nI (C d) := ec
      have e2 : (m2_sr μ kR_dist g).1 kD_a d = nI (A d) := ea
      have e3 : (m2_sr μ kR_dist g).1 kD_b d = nI (B d) := eb
      have e4 : (m2_sr μ kR_dist g).1 kD_oneWay d = (if T d = true then 0 else 1) := et
      have e5 : (m2_sr μ kR_dist g).1 kR_dist = g := m2_sr_same _ _ _
      have ca : (nI (A d)).toNatClampNeg = A d := nI_clamp (by omega)
      have cb : (nI (B d)).toNatClampNeg = B d := nI_clamp (by omega)
      have ga := hgx (A d) hA
      have gb := hgx (B d) hB
      have ha := hle (A d)
      have hb := hle (B d)
      generalize hxa : bf_ps A B T C d x0 (A d) = xa at *
      generalize hxb : bf_ps A B T C d x0 (B d) = xb at *
      refine B_X8_measure_35 h ⟨fun q => absurd (show nI n ≤ nI d by rw [← hn]; exact q) (nI_ge hlt (by omega)), fun _ => ⟨vp_in_nI (by omega) (by decide), ?_, ?_⟩⟩
      · rw [cl, e1, e2, e3, e4, e5, ca, cb, ga, gb, nI_1, nI_add, nI_add, m2_si_sr, m2_si_sr]
        intro hc0
        have hc1 : C d ≠ 0 := fun z => hc0 (by rw [z, nI_0])
        refine ⟨vp_in_nI hB (by decide), vp_in_nI hA (by decide), fun q => ?_, fun q => ?_⟩
        · have q1 : ¬ xb + C d < xa := by have := (nI_leI (by omega) (by omega)).mp q; omega
          refine ⟨fun ht => ?_, fun ht => ⟨fun q2 => ?_, fun q2 => ?_⟩⟩
          · have hT : ¬ T d = true := fun z => ht (by rw [if_pos z])
            have same : ∀ u, bf_ps A B T C (d + 1) x0 u = bf_ps A B T C d x0 u := by
              intro u
              rw [step]
              unfold bf_rx
              rw [if_neg hc1, hxa, hxb, if_neg q1, if_neg (fun z => hT z.1)]
            exact ih (d + 1) v2 v3 x0 g (by omega) hx0 (fun u hu => by rw [same]; exact hgx u hu) hv (fun z u => by rw [same]; exact hv0 z u) kk
          · have q3 : ¬ xa + C d < xb := by have := (nI_leI (by omega) (by omega)).mp q2; omega
            have same : ∀ u, bf_ps A B T C (d + 1) x0 u = bf_ps A B T C d x0 u := by
              intro u
              rw [step]
              unfold bf_rx
              rw [if_neg hc1, hxa, hxb, if_neg q1, if_neg (fun z => q3 z.2)]
            exact ih (d + 1) v2 v3 x0 g (by omega) hx0 (fun u hu => by rw [same]; exact hgx u hu) hv (fun z u => by rw [same]; exact hv0 z u) kk
          · have q3 : xa + C d < xb := by
              apply Classical.byContradiction
              intro z
              exact q2 ((nI_leI (by omega) (by omega)).mpr (by omega))
            have hT : T d = true := by
              cases hq : T d with
              | true => rfl
              | false => rw [hq] at ht; simp at ht
            refine ih (d + 1) 1 v3 x0 _ (by omega) hx0 (fun u hu => ?_) (Or.inr rfl) (fun z => absurd z (by decide)) kk
            rw [step]
            unfold bf_rx upd
            rw [if_neg hc1, hxa, hxb, if_neg q1, if_pos (show T d = true ∧ xa + C d < xb from ⟨hT, q3⟩)]
            by_cases hub : u = B d
            · simp [hub]
            · simp [hub, hgx u hu]
        · have q1 : xb + C d < xa := by
            apply Classical.byContradiction
            intro z
            exact q ((nI_leI (by omega) (by omega)).mpr (by omega))
          refine ih (d + 1) 1 v3 x0 _ (by omega) hx0 (fun u hu => ?_) (Or.inr rfl) (fun z => absurd z (by decide)) kk
          rw [step]
          unfold bf_rx upd
          rw [if_neg hc1, hxa, hxb, if_pos q1]
          by_cases hua : u = A d
          · simp [hua]
          · simp [hua, hgx u hu]
      · rw [cl, e1, nI_1]
        intro hc0
        have hc1 : C d = 0 := by
          have := (nI_eq (a := C d) (b := 0) (by omega) (by decide)).mp (by rw [hc0, nI_0])
          exact this
        have same : ∀ u, bf_ps A B T C (d + 1) x0 u = bf_ps A B T C d x0 u := by
          intro u
          rw [step]
          unfold bf_rx
          rw [if_pos hc1]
        exact ih (d + 1) v2 v3 x0 g (by omega) hx0 (fun u hu => by rw [same]; exact hgx u hu) hv (fun z u => by rw [same]; exact hv0 z u) kk
  -- the passes
  have outer : ∀ (j k : Nat) (v2 : Int32) (g : Nat → Int32), k + j = 12 → (∀ u, u < 12 → g u = nI (bf_it A B T C n k (bf_in 268435456 goal) u)) → (v2 = 0 → ∀ u, bf_ps A B T C n (bf_it A B T C n k (bf_in 268435456 goal)) u = bf_it A B T C n k (bf_in 268435456 goal) u) →
      κ 20 [.ref kR, .int (nI goal), .int v2, .int (nI k), .null, .null, .null] [] (m2_sr μ kR_dist g) := by
    intro j
    induction j with
    | zero =>
      intro k v2 g hk hgx hv
      have hk : k = 12 := by omega
      subst hk
      refine B_X8_measure_20 h ⟨fun _ => ⟨g, rfl, fun u hu => ?_⟩, fun q => absurd (by decide) q⟩
      rw [hgx u hu, hall 12 (by omega) u hu, hff u]
    | succ j ih =>
      intro k v2 g hk hgx hv
      refine B_X8_measure_20 h ⟨fun q => absurd (show nI 12 ≤ nI k from q) (nI_ge (by omega) (by omega)), fun _ => ⟨fun q => ⟨g, rfl, fun u hu => ?_⟩, fun q => ?_⟩⟩
      · rw [hgx u hu, hstop k (hv q) u hu, hff u]
      · have e := inner n 0 0 (nI k) (bf_it A B T C n k (bf_in 268435456 goal)) g (by omega) (bf_I_it hAB (bf_I_in A B T C n 268435456 goal) k).2.1 hgx (Or.inl rfl) (fun _ u => rfl) (fun w2 g' hg' hw hw0 => ?_)
        · rw [nI_0] at e
          exact e
        · rw [nI_1]
          refine ih (k + 1) w2 g' (by omega) hg' (fun z u => ?_)
          have hs := hw0 z
          show bf_ps A B T C n (bf_ps A B T C n (bf_it A B T C n k (bf_in 268435456 goal))) u = bf_ps A B T C n (bf_it A B T C n k (bf_in 268435456 goal)) u
          rw [show bf_ps A B T C n (bf_it A B T C n k (bf_in 268435456 goal)) = bf_it A B T C n k (bf_in 268435456 goal) from funext hs]
          exact hs u
  refine B_X8_measure_0 h ⟨_, S_fill sh_kR_dist (by decide) 268435456 μ, fun μ2 hq => ?_⟩
  subst hq
  refine ⟨vp_in_nI hgoal (by decide), ?_⟩
  rw [nI_clamp (by omega), m2_si_sr]
  have e := outer 12 0 1 (upd (fun j => if j < 12 then 268435456 else μ.1 kR_dist j) goal 0) (by omega) (fun u hu => ?_) (fun z => absurd z (by decide))
  · rw [nI_0] at e
    exact e
  · show _ = nI (bf_in 268435456 goal u)
    unfold upd bf_in
    by_cases hug : u = goal
    · simp [hug, nI_0]
    · simp [hug, hu]
      decide
