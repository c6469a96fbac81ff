/-! order: what one has still to go, at least -/
def hEr (ν : m2M) (q : Nat) : Nat := (ν.1 kM_errand q).toNatClampNeg
def hHo (ν : m2M) (q : Nat) : Nat := (ν.1 kM_home q).toNatClampNeg
/-- the same house and PEOPLE, some way on -/
def lkO (ν0 ν : m2M) (n p : Nat) : Prop := (∃ μ', RLn ν μ' n p) ∧ (∀ c, c ≠ kM_left → c ≠ kM_where → c ≠ kM_wasThere → c ≠ kM_isDone → ν.1 c = ν0.1 c) ∧ ∀ d, d < n → hL ν d ≤ hL ν0 d
theorem lkO.rf {ν μ : m2M} {n p : Nat} (h : RLn ν μ n p) : lkO ν ν n p := ⟨⟨μ, h⟩, fun _ _ _ _ _ => rfl, fun _ _ => Nat.le_refl _⟩
theorem lkO.h {ν0 ν : m2M} {n p : Nat} (h : lkO ν0 ν n p) : hA ν = hA ν0 ∧ hB ν = hB ν0 ∧ hT ν = hT ν0 := by
  refine ⟨funext fun e => ?_, funext fun e => ?_, funext fun e => ?_⟩
  · unfold hA; rw [h.2.1 kM_doorA (by decide) (by decide) (by decide) (by decide)]
  · unfold hB; rw [h.2.1 kM_doorB (by decide) (by decide) (by decide) (by decide)]
  · unfold hT; rw [h.2.1 kM_isOneWay (by decide) (by decide) (by decide) (by decide)]
def ptR (ν0 : m2M) (n q : Nat) (ν : m2M) : Nat := if ν.1 kM_isDone q = 0 then (if ν.1 kM_wasThere q = 0 then dF ν0 n (hW ν q) (hEr ν0 q) + (if ν0.1 kM_comesBack q = 0 then 0 else dF ν0 n (hEr ν0 q) (hHo ν0 q)) else dF ν0 n (hW ν q) (hHo ν0 q)) else 0
theorem gB_E {ν μ : m2M} {n p q d : Nat} (hR : RLn ν μ n p) (hq : q < p) (hd : d < n) (hb : gB ν q d ≠ -1) : ∃ x, x < 12 ∧ gB ν q d = nI x ∧ ((hA ν d = hW ν q ∧ hB ν d = x) ∨ (hT ν d = true ∧ hB ν d = hW ν q ∧ hA ν d = x)) := by
  have hw := hR.hw q hq
  have e : gB ν q d = if hA ν d = hW ν q then nI (hB ν d) else if hB ν d = hW ν q ∧ hT ν d = true then nI (hA ν d) else -1 := by
    unfold gB
    rw [hw.1]
    exact mg_beyond (hR.mg vM.rf) hd hw.2
  have hN := hR.N d hd
  by_cases z : hA ν d = hW ν q
  · rw [if_pos z] at e
    exact ⟨_, hN.2, e, Or.inl ⟨z, rfl⟩⟩
  · rw [if_neg z] at e
    by_cases z2 : hB ν d = hW ν q ∧ hT ν d = true
    · rw [if_pos z2] at e
      exact ⟨_, hN.1, e, Or.inr ⟨z2.2, z2.1, rfl⟩⟩
    · rw [if_neg z2] at e
      exact absurd e hb
theorem gG_wasE {ν : m2M} {q d : Nat} : (gG ν q d).1 kM_wasThere q = if ν.1 kM_errand q = gB ν q d then 1 else ν.1 kM_wasThere q := by
  unfold gG gA gRt
  rw [si_nc _ _ _ (by decide), si_at, gS_ne (by decide), gS_ne (by decide)]
theorem gG_doneE {ν : m2M} {q d : Nat} : (gG ν q d).1 kM_isDone q = if (gG ν q d).1 kM_wasThere q = 1 ∧ (ν.1 kM_comesBack q = 0 ∨ gB ν q d = ν.1 kM_home q) then 1 else ν.1 kM_isDone q := by
  rw [gG_wasE]
  unfold gG gA gDn gRt
  rw [si_at, gS_ne (by decide), gS_ne (by decide), gS_ne (by decide), gS_ne (by decide), gS_ne (by decide)]
theorem gG_leftd {ν : m2M} {q d : Nat} : (gG ν q d).1 kM_left d = if ν.1 kM_isStranger q = 0 then ν.1 kM_left d - 1 else ν.1 kM_left d := by
  unfold gG gA
  rw [si_nc _ _ _ (by decide), si_nc _ _ _ (by decide), si_nc _ _ _ (by decide)]
  unfold gS
  by_cases z : ν.1 kM_isStranger q = 0
  · rw [if_pos z, if_pos z]; exact si_at _ _ _ _
  · rw [if_neg z, if_neg z]
theorem dF_0 {ν μ : m2M} {n p b : Nat} (h : RLn ν μ n p) (hb : b < 12) : dF ν n b b = 0 := (wy_F (T := hT ν) (C := fun d => if hO ν d = true then 1 else 0) (far := 268435456) h.N h.AB hb).1
set_option maxHeartbeats 1000000 in
theorem lkO_gG {ν0 ν μ0 : m2M} {n p q d : Nat} (h0 : RLn ν0 μ0 n p) (h : lkO ν0 ν n p) (hq : q < p) (he : ν0.1 kM_errand q ≠ -1) (hd : d < n) (hb : gB ν q d ≠ -1) (hl : ν.1 kM_left d ≠ 0) : lkO ν0 (gG ν q d) n p ∧ ptR ν0 n q ν ≤ ptR ν0 n q (gG ν q d) + 1 := by
  obtain ⟨⟨μ, hR⟩, hc, hle⟩ := h
  have hh := lkO.h ⟨⟨μ, hR⟩, hc, hle⟩
  have hld := hR.hl d hd
  have hl0 : hL ν d ≠ 0 := fun w => hl (by rw [hld.1, w]; rfl)
  have p8 := hR.p8
  refine ⟨⟨⟨_, hR.go hq hd hb (fun _ => hl)⟩, fun c a1 a2 a3 a4 => (gG_at a1 a2 a3 a4).trans (hc c a1 a2 a3 a4), fun e he => ?_⟩, ?_⟩
  · by_cases z : e = d
    · subst z
      refine Nat.le_trans ?_ (hle e he)
      unfold hL
      rw [gG_leftd]
      by_cases y : ν.1 kM_isStranger q = 0
      · rw [if_pos y, hld.1, show (1 : Int32) = nI 1 from rfl, pk_sub (by omega), nI_clamp (by omega), nI_clamp (by omega)]
        omega
      · rw [if_neg y]
        exact Nat.le_refl _
    · unfold hL
      rw [gG_left z]
      exact hle e he
  · obtain ⟨x, hx, ex, ed⟩ := gB_E hR hq hd hb
    have hx' : hW (gG ν q d) q = x := by unfold hW; rw [gG_where, ex, nI_clamp (by omega)]
    have step : ∀ y, y < 12 → dF ν0 n (hW ν q) y ≤ 1 + dF ν0 n x y := by
      intro y hy
      have hF := wy_F (T := hT ν0) (C := fun d => if hO ν0 d = true then 1 else 0) (far := 268435456) h0.N h0.AB hy
      have ho : hO ν0 d = true := by
        have := hle d hd
        unfold hO
        exact decide_eq_true (by omega)
      refine hF.2.2.1 _ _ 1 ⟨d, hd, ?_, ?_, ?_⟩
      · show (if hO ν0 d = true then 1 else 0) ≠ 0
        rw [if_pos ho]; decide
      · show 1 = if hO ν0 d = true then 1 else 0
        rw [if_pos ho]
      · rw [← hh.1, ← hh.2.1, ← hh.2.2]
        exact ed
    have ee : ν.1 kM_errand q = ν0.1 kM_errand q := by rw [hc kM_errand (by decide) (by decide) (by decide) (by decide)]
    have eh : ν.1 kM_home q = ν0.1 kM_home q := by rw [hc kM_home (by decide) (by decide) (by decide) (by decide)]
    have ec : ν.1 kM_comesBack q = ν0.1 kM_comesBack q := by rw [hc kM_comesBack (by decide) (by decide) (by decide) (by decide)]
    have i0 := h0.2.1.2.2.2 q hq
    have hE := in_n (i0.2.2.2.2.2.1.resolve_left he) (by decide)
    have hE : ν0.1 kM_errand q = nI (hEr ν0 q) ∧ hEr ν0 q < 12 := hE
    have hH : ν0.1 kM_home q = nI (hHo ν0 q) ∧ hHo ν0 q < 12 := in_n i0.2.2.1 (by decide)
    have iv := hR.2.2.2.2.2.2.2.2.2.1 p q hR.2.1.2.1 p8 hq (by rw [ee]; exact he)
    rw [ec, eh] at iv
    have b7 := (hR.2.1.2.2.2 q hq).2.2.2.2.2.2.2.1
    have hw := gG_wasE (ν := ν) (q := q) (d := d)
    have ho := gG_doneE (ν := ν) (q := q) (d := d)
    rw [ee, ex, hE.1] at hw
    rw [ec, eh, ex, hH.1] at ho
    unfold ptR
    rw [hx']
    by_cases z1 : ν.1 kM_isDone q = 0
    · rw [if_pos z1]
      by_cases z2 : ν.1 kM_wasThere q = 0
      · rw [if_pos z2]
        by_cases z3 : hEr ν0 q = x
        · rw [if_pos (by rw [z3])] at hw
          rw [hw] at ho ⊢
          have s1 := step (hEr ν0 q) hE.2
          rw [z3] at s1
          have : dF ν0 n x x = 0 := dF_0 h0 hx
          rw [z3]
          by_cases z4 : ν0.1 kM_comesBack q = 0
          · rw [if_pos ⟨rfl, Or.inl z4⟩] at ho
            rw [if_pos z4, ho, if_neg (by decide)]
            omega
          · rw [if_neg z4]
            by_cases z5 : x = hHo ν0 q
            · rw [if_pos ⟨rfl, Or.inr (by rw [z5])⟩] at ho
              rw [ho, if_neg (by decide), ← z5]
              omega
            · rw [if_neg (fun w => w.2.elim z4 (fun y => z5 ((nI_eq (by omega) (by omega)).mp y)))] at ho
              rw [ho, if_pos z1, if_neg (by decide)]
              omega
        · rw [if_neg (fun w => z3 ((nI_eq (by omega) (by omega)).mp w)), z2] at hw
          rw [hw] at ho ⊢
          rw [if_neg (fun w => absurd w.1 (by decide))] at ho
          rw [ho, if_pos z1, if_pos rfl]
          have s1 := step (hEr ν0 q) hE.2
          omega
      · rw [if_neg z2]
        have t1 : ν.1 kM_wasThere q = 1 := b7.resolve_left z2
        have hw1 : (gG ν q d).1 kM_wasThere q = 1 := by rw [hw, t1]; split <;> rfl
        rw [hw1] at ho ⊢
        have z4 : ¬ ν0.1 kM_comesBack q = 0 := fun w => by
          have := iv.2 t1 (Or.inl w)
          rw [z1] at this
          exact absurd this (by decide)
        have s1 := step (hHo ν0 q) hH.2
        by_cases z5 : x = hHo ν0 q
        · rw [if_pos ⟨rfl, Or.inr (by rw [z5])⟩] at ho
          rw [ho, if_neg (by decide)]
          have : dF ν0 n x x = 0 := dF_0 h0 hx
          rw [← z5] at s1 ⊢
          omega
        · rw [if_neg (fun w => w.2.elim z4 (fun y => z5 ((nI_eq (by omega) (by omega)).mp y)))] at ho
          rw [ho, if_pos z1, if_neg (by decide)]
          omega
    · rw [if_neg z1]
      exact Nat.zero_le _
theorem lkO_gW {ν0 μ0 : m2M} {n p q v : Nat} (h0 : RLn ν0 μ0 n p) (hq : q < p) (he : ν0.1 kM_errand q ≠ -1) : ∀ {l : List Nat} {ν : m2M}, lkO ν0 ν n p → wkS ν n q l v → lkO ν0 (gW q l ν) n p ∧ ptR ν0 n q ν ≤ ptR ν0 n q (gW q l ν) + l.length
  | [], ν, h, _ => ⟨h, Nat.le_refl _⟩
  | d :: l, ν, h, hs => by
    obtain ⟨μ, hR⟩ := h.1
    obtain ⟨s1, s2, s3, s4⟩ := hs.step hR hq
    obtain ⟨a1, a2⟩ := lkO_gG h0 h hq he s1 s2 s3
    obtain ⟨b1, b2⟩ := lkO_gW h0 hq he a1 s4
    refine ⟨b1, ?_⟩
    show _ ≤ ptR ν0 n q (gW q l (gG ν q d)) + (l.length + 1)
    omega
theorem lkO_trip {ν0 μ0 : m2M} {n p q pl : Nat} (h0 : RLn ν0 μ0 n p) (hq : q < p) (he : ν0.1 kM_errand q ≠ -1) : ∀ (k : Nat) {ν : m2M}, lkO ν0 ν n p → lkO ν0 (tripN n p q pl k ν).1 n p ∧ ptR ν0 n q ν ≤ ptR ν0 n q (tripN n p q pl k ν).1 + (tripN n p q pl k ν).2.1 ∧ (tripN n p q pl k ν).2.1 ≤ 11 * k
  | 0, ν, h => ⟨h, Nat.le_refl _, Nat.le_refl _⟩
  | k + 1, ν, h => by
    unfold tripN
    by_cases z : gN ν q = -1
    · rw [if_pos z]; exact ⟨h, Nat.le_refl _, Nat.zero_le _⟩
    · rw [if_neg z]
      obtain ⟨μ, hR⟩ := h.1
      cases e : lgO ν n p q pl with
      | none => exact ⟨h, Nat.le_refl _, Nat.zero_le _⟩
      | some l =>
        obtain ⟨hs, hl⟩ := wyP_ok hR hq (hR.gn hq z).2 e
        obtain ⟨b1, b2⟩ := lkO_gW h0 hq he h hs
        obtain ⟨c1, c2, c3⟩ := lkO_trip h0 hq he k b1
        refine ⟨c1, ?_, ?_⟩
        · show _ ≤ ptR ν0 n q (tripN n p q pl k (gW q l ν)).1 + (l.length + _)
          omega
        · show l.length + _ ≤ _
          omega
