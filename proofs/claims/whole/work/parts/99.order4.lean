/-! order: the class begins -/
theorem dF_11 {ν μ : m2M} {n p a b : Nat} (h : RLn ν μ n p) (ha : a < 12) (hb : b < 12) (hl : dF ν n a b < 268435456) : dF ν n a b ≤ 11 := by
  have e := dF_eq h ha hb
  unfold dO at e
  rcases ew : wyU ν n (hO ν) a b with _ | l
  · rw [ew] at e
    have e : dF ν n a b = 268435456 := e
    omega
  · rw [ew] at e
    have e : dF ν n a b = l.length := e
    have := (wyU_ok h ha hb ew).2.2.1
    omega
theorem ptR_22 {ν μ : m2M} {n p q : Nat} (h : RLn ν μ n p) (hq : q < p) (he : ν.1 kM_errand q ≠ -1) (hl : ptR ν n q ν < 268435456) : ptR ν n q ν ≤ 22 := by
  have i0 := h.2.1.2.2.2 q hq
  have hE : ν.1 kM_errand q = nI (hEr ν q) ∧ hEr ν q < 12 := in_n (i0.2.2.2.2.2.1.resolve_left he) (by decide)
  have hH : ν.1 kM_home q = nI (hHo ν q) ∧ hHo ν q < 12 := in_n i0.2.2.1 (by decide)
  have hw := (h.hw q hq).2
  have a1 := dF_11 h hw hE.2
  have a2 := dF_11 h hE.2 hH.2
  have a3 := dF_11 h hw hH.2
  revert hl
  unfold ptR
  split
  · split
    · split
      · intro hl
        have := a1 (by omega)
        omega
      · intro hl
        have := a1 (by omega)
        have := a2 (by omega)
        omega
    · intro hl
      have := a3 hl
      omega
  · intro _
    omega
theorem muN_22 {ν μ : m2M} {n p q : Nat} (h : RLn ν μ n p) (hq : q < p) (he : ν.1 kM_errand q ≠ -1) : muN ν n q ≤ 22 := by
  unfold muN
  split
  · omega
  · split
    · rename_i z; exact ptR_22 h hq he z
    · omega
set_option maxHeartbeats 1000000 in
theorem S_fewestDoors {D n p q : Nat} (hD : 2 ≤ D) (ν μ : m2M) (h : RLn ν μ n p) (hq : q < p) (hg : gN ν q ≠ -1) : m2_MT D yX10_fewestDoors cX10_fewestDoors 4 (some .int) [.ref kW, .int (nI q)] μ (fun r μ' => r = some (.int (nI (if ptR ν n q ν < 268435456 then ptR ν n q ν else 0))) ∧ frR μ μ') := by
  obtain ⟨D, rfl⟩ : ∃ E, D = E + 1 := ⟨D - 1, by omega⟩
  have hp8 := h.p8
  have hn := h.n20
  obtain ⟨he, hd⟩ := gN_err (by omega) hg
  have i0 := h.2.1.2.2.2 q hq
  have hE : ν.1 kM_errand q = nI (hEr ν q) ∧ hEr ν q < 12 := in_n (i0.2.2.2.2.2.1.resolve_left he) (by decide)
  have hH : ν.1 kM_home q = nI (hHo ν q) ∧ hHo ν q < 12 := in_n i0.2.2.1 (by decide)
  have hw := h.hw q hq
  have ggl := h.goal hq
  have gg := h.gn hq hg
  have c1 := i0.1
  have b1 : μ.1 kP_where q = nI (hW ν q) := (h.cw q hq).1
  have b2 : μ.1 kP_first q = nI (hHo ν q) := c1.2.1.trans hH.1
  have b3 : μ.1 kP_back q = ν.1 kM_comesBack q := c1.2.2.2.2.2.1
  have b4 : μ.1 kP_reached q = ν.1 kM_wasThere q := c1.2.2.2.2.2.2.1
  refine m2_MT.intro (ls := [.ref kW, .int (nI q), .null, .null]) (by decide +kernel) rfl (ble rfl) (fun κ hk => ?_)
  refine B_X10_fewestDoors_0 hk (by omega) ⟨vp_in_nI (by omega) (by decide), fun _ => ?_, fun w => absurd (ggl.symm.trans w) hg⟩
  rw [ggl, gg.1]
  refine ⟨_, S_useAbove (m := 0) (by omega) _ h.1.1 hn (fun d hd => ⟨(h.cl d hd).1, by have := (h.cl d hd).2; omega⟩) (by decide), fun μ7 e7 => ?_⟩
  have r7 : frR μ μ7 := by rw [e7]; exact fr_sr rfl fr.rf
  have hR7 := r7.j.R h
  have c7 : ∀ d, d < n → μ7.1 kR_cost d = if hO ν d = true then 1 else 0 := by
    intro d hd
    rw [e7, m2_sr_same, if_pos hd]
    unfold hO
    by_cases z : 0 < hL ν d
    · rw [if_pos z, if_pos (decide_eq_true z)]
    · rw [if_neg z, if_neg (by simp [z])]
  refine ⟨_, S_measureV (by omega) ν μ7 hR7 c7 gg.2, fun μ12 h12 => ?_⟩
  obtain ⟨f12, e12, d12⟩ := h12
  have r12 : frR μ μ12 := by rw [e12]; exact fr_sr rfl r7
  have s1 : μ12.1 kP_where q = nI (hW ν q) := by rw [(r12 kP_where rfl).1]; exact b1
  have s2 : μ12.1 kP_back q = ν.1 kM_comesBack q := by rw [(r12 kP_back rfl).1]; exact b3
  have s3 : μ12.1 kP_reached q = ν.1 kM_wasThere q := by rw [(r12 kP_reached rfl).1]; exact b4
  have s4 : μ12.1 kP_first q = nI (hHo ν q) := by rw [(r12 kP_first rfl).1]; exact b2
  have dd : μ12.1 kR_dist (hW ν q) = nI (dF ν n (hW ν q) (gnN ν q)) := by rw [e12, m2_sr_same]; exact d12 _ hw.2
  rw [nI_clamp (by omega), s1, s2, s3, s4, nI_clamp (by omega), dd]
  refine ⟨vp_in_nI hw.2 (by decide), ?_⟩
  have l1 := dF_le (a := hW ν q) h gg.2
  have ans : ∀ x : Nat, x ≤ 536870912 → (if (268435456 : Int32) ≤ nI x then 0 else nI x : Int32) = nI (if x < 268435456 then x else 0) := by
    intro x hx
    by_cases z : x < 268435456
    · rw [if_pos z, if_neg (show ¬ (268435456 : Int32) ≤ nI x from nI_ge (a := x) (b := 268435456) z (by decide))]
    · rw [if_neg z, if_pos (show (268435456 : Int32) ≤ nI x from nI_le (a := 268435456) (by omega) (by omega))]
      rfl
  have gE : gN ν q = (if ν.1 kM_wasThere q = 0 then ν.1 kM_errand q else ν.1 kM_home q) := by
    rw [gN_eq (by omega), if_neg he, if_pos hd]
  by_cases zt : ν.1 kM_wasThere q = 0
  · rw [if_pos zt] at gE
    have eg : gnN ν q = hEr ν q := by unfold gnN hEr; rw [gE]
    rw [eg] at l1 ⊢
    by_cases zb : ν.1 kM_comesBack q = 0
    · refine ⟨fun _ => ⟨?_, r12⟩, fun w => absurd zb w⟩
      have : ptR ν n q ν = dF ν n (hW ν q) (hEr ν q) := by
        unfold ptR
        rw [if_pos hd, if_pos zt, if_pos zb]
        rfl
      rw [this, ans _ (by omega)]
    · refine ⟨fun w => absurd w zb, fun _ => ⟨fun w => absurd zt w, fun _ => ?_⟩⟩
      have hR12 := r12.j.R h
      refine ⟨_, S_measureV (by omega) ν μ12 hR12 (fun d hd => by rw [e12, m2_sr_ne _ _ (by decide)]; exact c7 d hd) hH.2, fun μ30 h30 => ⟨vp_in_nI hE.2 (by decide), ?_⟩⟩
      obtain ⟨f30, e30, d30⟩ := h30
      have l2 := dF_le (a := hEr ν q) h hH.2
      have d2 : μ30.1 kR_dist (hEr ν q) = nI (dF ν n (hEr ν q) (hHo ν q)) := by rw [e30, m2_sr_same]; exact d30 _ hE.2
      rw [nI_clamp (by omega), d2, nI_add]
      refine ⟨?_, by rw [e30]; exact fr_sr rfl r12⟩
      have : ptR ν n q ν = dF ν n (hW ν q) (hEr ν q) + dF ν n (hEr ν q) (hHo ν q) := by
        unfold ptR
        rw [if_pos hd, if_pos zt, if_neg zb]
      rw [this, ans _ (by omega)]
  · rw [if_neg zt] at gE
    have eg : gnN ν q = hHo ν q := by unfold gnN hHo; rw [gE]
    rw [eg] at l1 ⊢
    have : ptR ν n q ν = dF ν n (hW ν q) (hHo ν q) := by
      unfold ptR
      rw [if_pos hd, if_neg zt]
    rw [this]
    exact ⟨fun _ => ⟨by rw [ans _ (by omega)], r12⟩, fun _ => ⟨fun _ => ⟨by rw [ans _ (by omega)], r12⟩, fun w => absurd w zt⟩⟩
def bzB (ν : m2M) (p : Nat) (q : Nat) : Bool := decide (q < p) && !decide (gN ν q = -1)
theorem bzB_iff {ν : m2M} {p q : Nat} : bzB ν p q = true ↔ q < p ∧ gN ν q ≠ -1 := by
  unfold bzB
  simp
/-- what the class's search stands on -/
def oC (ν : m2M) (n p pl : Nat) (M : m2M) : Prop := M.1 kO 7 = nI (cnb (bzB ν p) 12) ∧ M.1 kO 10 = nI pl ∧ (∀ i, i < cnb (bzB ν p) 12 → M.1 kO_goers i = nI (rmN (bzB ν p) i)) ∧ ∀ i, i < cnb (bzB ν p) 12 → M.1 kO_must i = nI (muN ν n (rmN (bzB ν p) i))
theorem bf_sum_add (f g : Nat → Nat) : ∀ N, bf_sum (fun i => f i + g i) N = bf_sum f N + bf_sum g N
  | 0 => rfl
  | N + 1 => by
    show bf_sum (fun i => f i + g i) N + (f N + g N) = bf_sum f N + f N + (bf_sum g N + g N)
    rw [bf_sum_add f g N]
    omega
theorem bf_sum_z {f : Nat → Nat} {a : Nat} : ∀ {b : Nat}, a ≤ b → (∀ i, a ≤ i → i < b → f i = 0) → bf_sum f b = bf_sum f a
  | 0, h, _ => by
    have : a = 0 := by omega
    rw [this]
  | b + 1, h, hz => by
    by_cases e : a = b + 1
    · rw [e]
    · show bf_sum f b + f b = _
      rw [bf_sum_z (by omega) (fun i h1 h2 => hz i h1 (by omega)), hz b (by omega) (by omega)]
      omega
theorem cnb_s (g : Nat → Bool) (q : Nat) : cnb g (q + 1) = cnb g q + (if g q = true then 1 else 0) := rfl
/-- kO's cells and what measures -/
def frB (μ μ' : m2M) : Prop := fr (fun c => (Nat.ble 33 c && Nat.ble c 36) || (Nat.ble 49 c && Nat.ble c 54)) μ μ'
theorem frB_of {c : Nat} (h : ((Nat.ble 33 c && Nat.ble c 36) || (Nat.ble 49 c && Nat.ble c 54)) = true) : (33 ≤ c ∧ c ≤ 36) ∨ (49 ≤ c ∧ c ≤ 54) := by
  simp only [Bool.or_eq_true, Bool.and_eq_true, Nat.ble_eq] at h
  exact h
theorem frB.j {μ μ' : m2M} (h : frB μ μ') : jC μ μ' := fr_j h (fun c hc => by
  have := frB_of hc
  rcases (show c = 33 ∨ c = 34 ∨ c = 35 ∨ c = 36 ∨ c = 49 ∨ c = 50 ∨ c = 51 ∨ c = 52 ∨ c = 53 ∨ c = 54 by omega) with rfl | rfl | rfl | rfl | rfl | rfl | rfl | rfl | rfl | rfl <;> exact ⟨fun _ => rfl, rfl⟩)
theorem frR.b {μ μ' : m2M} (h : frR μ μ') : frB μ μ' := fr.mo h (fun c hc => by
  simp only [Bool.or_eq_false_iff] at hc
  exact hc.1)
