/-! memory, and the leaves of the class's ways -/
theorem m2_ext {μ ν : m2M} (h1 : ∀ c, μ.1 c = ν.1 c) (h2 : ∀ c, μ.2 c = ν.2 c) : μ = ν := Prod.ext (funext h1) (funext h2)
theorem m2_sr_sr (μ : m2M) (c : Nat) (f g : Nat → Int32) : m2_sr (m2_sr μ c f) c g = m2_sr μ c g := m2_ext (fun c' => by by_cases h : c' = c <;> simp [m2_sr, h]) (fun _ => rfl)
theorem m2_sr_id (μ : m2M) (c : Nat) : m2_sr μ c (μ.1 c) = μ := m2_ext (fun c' => by by_cases h : c' = c <;> simp [m2_sr, h]) (fun _ => rfl)
theorem m2_sr_comm (μ : m2M) {c c' : Nat} (f g : Nat → Int32) (h : c ≠ c') : m2_sr (m2_sr μ c f) c' g = m2_sr (m2_sr μ c' g) c f := by
  refine m2_ext (fun q => ?_) (fun _ => rfl)
  by_cases h1 : q = c
  · subst h1
    simp [m2_sr, h]
  · by_cases h2 : q = c' <;> simp [m2_sr, h1, h2, Ne.symm h]
theorem m2_si_sr (μ : m2M) (c j : Nat) (f : Nat → Int32) (x : Int32) : m2_si (m2_sr μ c f) c j x = m2_sr μ c (upd f j x) := by
  unfold m2_si
  rw [m2_sr_same, m2_sr_sr]
theorem m2_sr_eq {μ : m2M} {c : Nat} {f g : Nat → Int32} (h : ∀ j, f j = g j) : m2_sr μ c f = m2_sr μ c g := by rw [show f = g from funext h]
/-- Arrays.fill of ints -/
theorem dJ7_fill_53178_0 : decode cJ7_fill_53178 0 = .ok (.iconst 0, 1) := by decide +kernel
theorem dJ7_fill_53178_1 : decode cJ7_fill_53178 1 = .ok (.istore_n 2, 1) := by decide +kernel
theorem dJ7_fill_53178_2 : decode cJ7_fill_53178 2 = .ok (.aload_n 0, 1) := by decide +kernel
theorem dJ7_fill_53178_3 : decode cJ7_fill_53178 3 = .ok (.arraylength, 1) := by decide +kernel
theorem dJ7_fill_53178_4 : decode cJ7_fill_53178 4 = .ok (.istore_n 3, 1) := by decide +kernel
theorem dJ7_fill_53178_5 : decode cJ7_fill_53178 5 = .ok (.iload_n 2, 1) := by decide +kernel
theorem dJ7_fill_53178_6 : decode cJ7_fill_53178 6 = .ok (.iload_n 3, 1) := by decide +kernel
theorem dJ7_fill_53178_7 : decode cJ7_fill_53178 7 = .ok (.if_icmp .ge 13, 3) := by decide +kernel
theorem dJ7_fill_53178_10 : decode cJ7_fill_53178 10 = .ok (.aload_n 0, 1) := by decide +kernel
theorem dJ7_fill_53178_11 : decode cJ7_fill_53178 11 = .ok (.iload_n 2, 1) := by decide +kernel
theorem dJ7_fill_53178_12 : decode cJ7_fill_53178 12 = .ok (.iload_n 1, 1) := by decide +kernel
theorem dJ7_fill_53178_13 : decode cJ7_fill_53178 13 = .ok (.iastore, 1) := by decide +kernel
theorem dJ7_fill_53178_14 : decode cJ7_fill_53178 14 = .ok (.iinc 2 1, 3) := by decide +kernel
theorem dJ7_fill_53178_17 : decode cJ7_fill_53178 17 = .ok (.goto (-12), 3) := by decide +kernel
theorem dJ7_fill_53178_20 : decode cJ7_fill_53178 20 = .ok (.return_, 1) := by decide +kernel
theorem S_fill {D c0 n : Nat} {rs : List Nat} (hs : m2_sh c0 = some (.inl (2, n, rs))) (hn : n < 2 ^ 31) (v : Int32) (μ : m2M) : m2_MT D yJ7_fill_53178 cJ7_fill_53178 4 none [.ref c0, .int v] μ (fun _ μ' => μ' = m2_sr μ c0 (fun j => if j < n then v else μ.1 c0 j)) := by
  refine m2_MT.intro (ls := [.ref c0, .int v, .null, .null]) (by decide +kernel) rfl (Nat.le_of_ble_eq_true rfl) (fun κ h => ?_)
  have hB := h.b
  have loop : ∀ (k i : Nat), i + k = n → κ 5 [.ref c0, .int v, .int (nI i), .int (nI n)] [] (m2_sr μ c0 (fun j => if j < i then v else μ.1 c0 j)) := by
    intro k
    induction k with
    | zero =>
      intro i hi
      have hi : i = n := by omega
      subst hi
      refine m2_iload_n hB dJ7_fill_53178_5 rfl ?_
      refine m2_iload_n hB dJ7_fill_53178_6 rfl ?_
      refine m2_icmp_ge hB dJ7_fill_53178_7 (tgt := 20) (by decide) (fun _ => ?_) (fun q => absurd (nI_le (Nat.le_refl i) hn) q)
      exact m2_vret h dJ7_fill_53178_20 rfl
    | succ k ih =>
      intro i hi
      have hlt : i < n := by omega
      refine m2_iload_n hB dJ7_fill_53178_5 rfl ?_
      refine m2_iload_n hB dJ7_fill_53178_6 rfl ?_
      refine m2_icmp_ge hB dJ7_fill_53178_7 (tgt := 20) (by decide) (fun q => absurd q (nI_ge hlt hn)) (fun _ => ?_)
      refine m2_aload_n hB dJ7_fill_53178_10 rfl ?_
      refine m2_iload_n hB dJ7_fill_53178_11 rfl ?_
      refine m2_iload_n hB dJ7_fill_53178_12 rfl ?_
      refine m2_iast hB dJ7_fill_53178_13 hs (vp_in_nI hlt hn) ?_
      refine m2_iinc hB (ls' := [.ref c0, .int v, .int (nI (i + 1)), .int (nI n)]) (v := nI (i + 1)) dJ7_fill_53178_14 rfl (by decide) (nI_1 i) rfl ?_
      refine m2_goto hB dJ7_fill_53178_17 (tgt := 5) (by decide) ?_
      have e := ih (i + 1) (by omega)
      rw [m2_si_sr, nI_clamp (by omega)]
      rw [show upd (fun j => if j < i then v else μ.1 c0 j) i v = (fun j => if j < i + 1 then v else μ.1 c0 j) from ?_]
      · exact e
      · funext j
        unfold upd
        by_cases hj : j = i
        · subst hj; simp
        · by_cases h2 : j < i
          · simp [hj, h2, Nat.lt_succ_of_lt h2]
          · simp [hj, h2, show ¬ j < i + 1 by omega]
  refine m2_iconst hB dJ7_fill_53178_0 (v := 0) (by decide) ?_
  refine m2_istore_n hB (ls' := [.ref c0, .int v, .int 0, .null]) dJ7_fill_53178_1 rfl (by decide) rfl ?_
  refine m2_aload_n hB dJ7_fill_53178_2 rfl ?_
  refine m2_alenI hB dJ7_fill_53178_3 hs ?_
  refine m2_istore_n hB (ls' := [.ref c0, .int v, .int 0, .int (Int32.ofNat n)]) dJ7_fill_53178_4 rfl (by decide) rfl ?_
  have e := loop n 0 (by omega)
  rw [show m2_sr μ c0 (fun j => if j < 0 then v else μ.1 c0 j) = μ from ?_] at e
  · rw [nI_0] at e
    exact e
  · rw [show (fun j => if j < 0 then v else μ.1 c0 j) = μ.1 c0 from funext fun j => by simp]
    exact m2_sr_id μ c0
/-- the class's DOORS: how many, from where to where, whether both ways -/
def cg (μ : m2M) (n : Nat) (A B : Nat → Nat) (T : Nat → Bool) : Prop := μ.1 kD 6 = nI n ∧ n ≤ 20 ∧ ∀ d, d < n → μ.1 kD_a d = nI (A d) ∧ A d < 12 ∧ μ.1 kD_b d = nI (B d) ∧ B d < 12 ∧ A d ≠ B d ∧ μ.1 kD_oneWay d = (if T d = true then 0 else 1)
def cc_ (μ : m2M) (n : Nat) (C : Nat → Nat) : Prop := ∀ d, d < n → μ.1 kR_cost d = nI (C d) ∧ C d ≤ 200000
/-- Routes.useAbove -/
theorem S_useAbove {D n : Nat} (hD : 1 ≤ D) {L : Nat → Nat} {m : Nat} (μ : m2M) (hn : μ.1 kD 6 = nI n) (hn20 : n ≤ 20) (hL : ∀ d, d < n → μ.1 kD_left d = nI (L d) ∧ L d < 2 ^ 31) (hm : m < 2 ^ 31) : m2_MT D yX8_useAbove cX8_useAbove 3 none [.ref kR, .int (nI m)] μ (fun _ μ' => μ' = m2_sr μ kR_cost (fun d => if d < n then (if m < L d then 1 else 0) else μ.1 kR_cost d)) := by
  obtain ⟨D, rfl⟩ : ∃ E, D = E + 1 := ⟨D - 1, by omega⟩
  refine m2_MT.intro (ls := [.ref kR, .int (nI m), .null]) (by decide +kernel) rfl (Nat.le_of_ble_eq_true rfl) (fun κ h => ?_)
  have loop : ∀ (k i : Nat), i + k = n → κ 2 [.ref kR, .int (nI m), .int (nI i)] [] (m2_sr μ kR_cost (fun d => if d < i then (if m < L d then 1 else 0) else μ.1 kR_cost d)) := by
    intro k
    induction k with
    | zero =>
      intro i hi
      have hi : i = n := by omega
      subst hi
      exact B_X8_useAbove_2 h (Nat.zero_le _) ⟨fun _ => rfl, fun q => absurd (show μ.1 kD 6 ≤ nI i by rw [hn]; exact nI_le (Nat.le_refl i) (by omega)) q⟩
    | succ k ih =>
      intro i hi
      have hlt : i < n := by omega
      refine B_X8_useAbove_2 h (Nat.zero_le _) ⟨fun q => absurd (show nI n ≤ nI i by rw [← hn]; exact q) (nI_ge hlt (by omega)), fun _ => ⟨vp_in_nI (by omega) (by decide), ?_⟩⟩
      have e := ih (i + 1) (by omega)
      rw [nI_clamp (by omega), nI_1, m2_si_sr]
      have e2 : (m2_sr μ kR_cost (fun d => if d < i then (if m < L d then 1 else 0) else μ.1 kR_cost d)).1 kD_left i = nI (L i) := (hL i hlt).1
      rw [e2]
      rw [m2_sr_eq (g := fun d => if d < i + 1 then (if m < L d then 1 else 0) else μ.1 kR_cost d)]
      · exact e
      · intro j
        unfold upd
        by_cases hj : j = i
        · subst hj
          have := nI_leI (a := L j) (b := m) (hL j hlt).2 hm
          by_cases hq : m < L j
          · have hq2 : ¬ nI (L j) ≤ nI m := fun z => by have := this.mp z; omega
            simp [hq, hq2]
          · have hq2 : nI (L j) ≤ nI m := this.mpr (by omega)
            simp [hq, hq2]
        · by_cases h2 : j < i
          · simp [hj, h2, Nat.lt_succ_of_lt h2]
          · simp [hj, h2, show ¬ j < i + 1 by omega]
  refine B_X8_useAbove_0 h ?_
  have e := loop n 0 (by omega)
  rw [show m2_sr μ kR_cost (fun d => if d < 0 then (if m < L d then 1 else 0) else μ.1 kR_cost d) = μ from ?_] at e
  · rw [nI_0] at e
    exact e
  · rw [show (fun d => if d < 0 then (if m < L d then (1 : Int32) else 0) else μ.1 kR_cost d) = μ.1 kR_cost from funext fun j => by simp]
    exact m2_sr_id μ kR_cost
