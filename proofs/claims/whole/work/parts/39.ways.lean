/-! ways: what a found one is -/
def wk (A B : Nat → Nat) (T : Nat → Bool) (C : Nat → Nat) (n : Nat) : Nat → List Nat → Nat → Prop
  | u, [], v => u = v
  | u, d :: l, v => d < n ∧ C d ≠ 0 ∧ ((A d = u ∧ wk A B T C n (B d) l v) ∨ (A d ≠ u ∧ T d = true ∧ B d = u ∧ wk A B T C n (A d) l v))
theorem bf_pt_ok {A B : Nat → Nat} {T : Nat → Bool} {C : Nat → Nat} {n far goal : Nat} {f : Nat → Nat} (hF : bf_F A B T C n far goal f) (hN : ∀ d, d < n → A d < 12 ∧ B d < 12) (hAB : ∀ d, d < n → A d ≠ B d) : ∀ (k u : Nat), u < 12 → f u < far → bf_rk f u 12 ≤ k → wk A B T C n u (bf_pt A B (fun u => bf_nx (fun d => bf_tb A B T C f d u) n) goal k u) goal ∧ (bf_pt A B (fun u => bf_nx (fun d => bf_tb A B T C f d u) n) goal k u).Nodup ∧ (∀ d, d ∈ bf_pt A B (fun u => bf_nx (fun d => bf_tb A B T C f d u) n) goal k u → f (A d) ≤ f u ∧ f (B d) ≤ f u) ∧ (bf_pt A B (fun u => bf_nx (fun d => bf_tb A B T C f d u) n) goal k u).length ≤ bf_rk f u 12 := by
  intro k
  induction k with
  | zero =>
    intro u hu hfu hk
    have : u = goal := by
      by_cases e : u = goal
      · exact e
      · exfalso
        obtain ⟨v, w, he, hw⟩ := hF.2.2.2 u e hfu
        have := bf_E_lt hN he
        have : bf_rk f v 12 < bf_rk f u 12 := bf_rk_lt (by omega) this.2.1
        omega
    unfold bf_pt
    exact ⟨this, List.nodup_nil, fun d hd => absurd hd (by simp), Nat.zero_le _⟩
  | succ k ih =>
    intro u hu hfu hk
    unfold bf_pt
    by_cases e : u = goal
    · rw [if_pos e]
      exact ⟨e, List.nodup_nil, fun d hd => absurd hd (by simp), Nat.zero_le _⟩
    · rw [if_neg e]
      obtain ⟨v, w, he, hw⟩ := hF.2.2.2 u e hfu
      obtain ⟨d0, hd0, hc0, hw0, hab⟩ := he
      have : bf_tb A B T C f d0 u = true := by
        rw [bf_tb_iff]
        refine ⟨hc0, ?_⟩
        rcases hab with ⟨h1, h2⟩ | ⟨h1, h2, h3⟩
        · exact Or.inl ⟨h1, by rw [h2]; omega⟩
        · exact Or.inr ⟨h1, h2, by rw [h3]; omega⟩
      obtain ⟨d, hd⟩ := bf_nx_ex (p := fun d => bf_tb A B T C f d u) hd0 this
      obtain ⟨hdn, hdt, _⟩ := bf_nx_some.mp hd
      obtain ⟨hc, hab⟩ := bf_tb_iff.mp hdt
      have key : ∃ x, (if A d = u then B d else A d) = x ∧ x < 12 ∧ f u = f x + C d ∧ (f (A d) ≤ f u ∧ f (B d) ≤ f u) ∧ (f (A d) = f u ∨ f (B d) = f u) ∧ ((A d = u ∧ x = B d) ∨ (A d ≠ u ∧ T d = true ∧ B d = u ∧ x = A d)) := by
        rcases hab with ⟨h1, h2⟩ | ⟨h1, h2, h3⟩
        · exact ⟨B d, if_pos h1, (hN d hdn).2, h2, ⟨by rw [h1]; exact Nat.le_refl _, by omega⟩, Or.inl (by rw [h1]), Or.inl ⟨h1, rfl⟩⟩
        · have : A d ≠ u := fun z => hAB d hdn (by rw [z, h2])
          exact ⟨A d, if_neg this, (hN d hdn).1, h3, ⟨by omega, by rw [h2]; exact Nat.le_refl _⟩, Or.inr (by rw [h2]), Or.inr ⟨this, h1, h2, rfl⟩⟩
      obtain ⟨x, hx, hx12, hfx, hle, heq, hdir⟩ := key
      have hrk : bf_rk f x 12 < bf_rk f u 12 := bf_rk_lt (by omega) hx12
      obtain ⟨i1, i2, i3, i4⟩ := ih x hx12 (by omega) (by omega)
      rw [hd]
      show wk A B T C n u (d :: bf_pt A B _ goal k (if A d = u then B d else A d)) goal ∧ (d :: bf_pt A B _ goal k (if A d = u then B d else A d)).Nodup ∧ (∀ d', d' ∈ d :: bf_pt A B _ goal k (if A d = u then B d else A d) → _) ∧ (d :: bf_pt A B _ goal k (if A d = u then B d else A d)).length ≤ _
      rw [hx]
      refine ⟨⟨hdn, hc, ?_⟩, List.nodup_cons.mpr ⟨fun z => ?_, i2⟩, fun d' hd' => ?_, ?_⟩
      · rcases hdir with ⟨h1, h2⟩ | ⟨h1, h2, h3, h4⟩
        · exact Or.inl ⟨h1, h2 ▸ i1⟩
        · exact Or.inr ⟨h1, h2, h3, h4 ▸ i1⟩
      · have := i3 d z
        omega
      · rcases List.mem_cons.mp hd' with rfl | z
        · exact hle
        · have := i3 d' z
          omega
      · simp only [List.length_cons]
        omega
theorem wy_ok {A B : Nat → Nat} {T : Nat → Bool} {C : Nat → Nat} {n far frm goal : Nat} {l : List Nat} (hN : ∀ d, d < n → A d < 12 ∧ B d < 12) (hAB : ∀ d, d < n → A d ≠ B d) (hgoal : goal < 12) (hfrm : frm < 12) (h : wy A B T C n far frm goal = some l) : wk A B T C n frm l goal ∧ l.Nodup ∧ l.length ≤ 11 := by
  have hF := wy_F (T := T) (C := C) (far := far) hN hAB hgoal
  unfold wy at h
  by_cases q : wy_f A B T C n far goal frm < far
  · rw [if_pos q] at h
    have hr := bf_rk_self (wy_f A B T C n far goal) frm (n := 12) hfrm
    obtain ⟨i1, i2, i3, i4⟩ := bf_pt_ok hF hN hAB 12 frm hfrm q (by omega)
    cases h
    exact ⟨i1, i2, by omega⟩
  · rw [if_neg q] at h
    cases h
theorem wk_mem {A B : Nat → Nat} {T : Nat → Bool} {C : Nat → Nat} {n : Nat} : ∀ {l : List Nat} {u v : Nat}, wk A B T C n u l v → ∀ d, d ∈ l → d < n ∧ C d ≠ 0
  | [], _, _, _, d, hd => absurd hd (by simp)
  | e :: l, u, v, h, d, hd => by
    rcases List.mem_cons.mp hd with rfl | z
    · exact ⟨h.1, h.2.1⟩
    · rcases h.2.2 with ⟨_, h2⟩ | ⟨_, _, _, h2⟩
      · exact wk_mem h2 d z
      · exact wk_mem h2 d z
/-- a path gives a way -/
theorem bf_of_wk {A B : Nat → Nat} {T : Nat → Bool} {C : Nat → Nat} {n far goal m : Nat} {f : Nat → Nat} (hF : bf_F A B T C n far goal f) (hm : ∀ d, d < n → C d ≤ m) : ∀ {l : List Nat} {u : Nat}, wk A B T C n u l goal → f u ≤ l.length * m
  | [], u, h => by
    have : u = goal := h
    rw [this, hF.1]
    exact Nat.zero_le _
  | d :: l, u, h => by
    obtain ⟨h1, h2, h3⟩ := h
    have := hm d h1
    have e : (l.length + 1) * m = l.length * m + m := by rw [Nat.add_mul, Nat.one_mul]
    simp only [List.length_cons]
    rcases h3 with ⟨h4, h5⟩ | ⟨h4, h5, h6, h7⟩
    · have := hF.2.2.1 u (B d) (C d) ⟨d, h1, h2, rfl, Or.inl ⟨h4, rfl⟩⟩
      have := bf_of_wk hF hm h5
      omega
    · have := hF.2.2.1 u (A d) (C d) ⟨d, h1, h2, rfl, Or.inr ⟨h5, h6, rfl⟩⟩
      have := bf_of_wk hF hm h7
      omega
/-! the house in numbers -/
def hA (ν : m2M) (d : Nat) : Nat := (ν.1 kM_doorA d).toNatClampNeg
def hB (ν : m2M) (d : Nat) : Nat := (ν.1 kM_doorB d).toNatClampNeg
def hT (ν : m2M) (d : Nat) : Bool := decide (ν.1 kM_isOneWay d = 0)
def hL (ν : m2M) (d : Nat) : Nat := (ν.1 kM_left d).toNatClampNeg
def hW (ν : m2M) (q : Nat) : Nat := (ν.1 kM_where q).toNatClampNeg
theorem in_n {k : Nat} {x : Int32} (h : in_ k x) (hk : k ≤ 2 ^ 31) : x = nI x.toNatClampNeg ∧ x.toNatClampNeg < k := by
  obtain ⟨a, ha, rfl⟩ := h
  rw [nI_clamp (by omega)]
  exact ⟨rfl, ha⟩
theorem RLn.hh {ν μ : m2M} {n p : Nat} (h : RLn ν μ n p) : ∀ d, d < n → ν.1 kM_doorA d = nI (hA ν d) ∧ hA ν d < 12 ∧ ν.1 kM_doorB d = nI (hB ν d) ∧ hB ν d < 12 ∧ hA ν d ≠ hB ν d ∧ ν.1 kM_isOneWay d = (if hT ν d = true then 0 else 1) := by
  intro d hd
  obtain ⟨_, a7, a8, a9, a10, a11, a12, a13⟩ := h.1.2.2.2 d hd
  obtain ⟨e1, e2⟩ := in_n a7 (by decide)
  obtain ⟨e3, e4⟩ := in_n a8 (by decide)
  refine ⟨e1, e2, e3, e4, fun z => a9 ?_, ?_⟩
  · rw [e1, e3]
    exact congrArg nI z
  · unfold hT
    rcases a10 with w | w
    · rw [w]; rfl
    · rw [w]; rfl
theorem RLn.hl {ν μ : m2M} {n p : Nat} (h : RLn ν μ n p) : ∀ d, d < n → ν.1 kM_left d = nI (hL ν d) ∧ hL ν d < 61 := fun d hd => in_n (h.1.2.2.2 d hd).2.2.2.2.2.2.1 (by decide)
theorem RLn.hw {ν μ : m2M} {n p : Nat} (h : RLn ν μ n p) : ∀ q, q < p → ν.1 kM_where q = nI (hW ν q) ∧ hW ν q < 12 := fun q hq => in_n (h.2.1.2.2.2 q hq).2.1 (by decide)
theorem RLn.cl {ν μ : m2M} {n p : Nat} (h : RLn ν μ n p) : ∀ d, d < n → μ.1 kD_left d = nI (hL ν d) ∧ hL ν d < 61 := fun d hd => ⟨(h.1.2.2.2 d hd).1.2.2.2.2.1.trans (h.hl d hd).1, (h.hl d hd).2⟩
theorem RLn.cw {ν μ : m2M} {n p : Nat} (h : RLn ν μ n p) : ∀ q, q < p → μ.1 kP_where q = nI (hW ν q) ∧ hW ν q < 12 := fun q hq => ⟨(h.2.1.2.2.2 q hq).1.1.trans (h.hw q hq).1, (h.hw q hq).2⟩
theorem RLn.n20 {ν μ : m2M} {n p : Nat} (h : RLn ν μ n p) : n ≤ 20 := h.1.2.2.1
theorem RLn.p8 {ν μ : m2M} {n p : Nat} (h : RLn ν μ n p) : p ≤ 8 := h.2.1.2.2.1
theorem RLn.cg {ν μ : m2M} {n p : Nat} (h : RLn ν μ n p) : cg μ n (hA ν) (hB ν) (hT ν) := by
  refine ⟨h.1.1, h.n20, fun d hd => ?_⟩
  obtain ⟨a1, a2, a3, a4, a5, a6⟩ := h.hh d hd
  obtain ⟨b1, b2, b3, _⟩ := (h.1.2.2.2 d hd).1
  exact ⟨b1.trans a1, a2, b2.trans a3, a4, a5, b3.trans a6⟩
theorem RLn.mg {ν μ ν2 : m2M} {n p : Nat} (h : RLn ν μ n p) (g : vM ν ν2) : mg ν2 n (hA ν) (hB ν) (hT ν) := by
  refine ⟨(g.1 kM 0 rfl rfl).trans h.1.2.1, h.n20, fun d hd => ?_⟩
  obtain ⟨a1, a2, a3, a4, a5, a6⟩ := h.hh d hd
  exact ⟨(g.1 kM_doorA d rfl rfl).trans a1, a2, (g.1 kM_doorB d rfl rfl).trans a3, a4, a5, (g.1 kM_isOneWay d rfl rfl).trans a6⟩
theorem RLn.N {ν μ : m2M} {n p : Nat} (h : RLn ν μ n p) : ∀ d, d < n → hA ν d < 12 ∧ hB ν d < 12 := fun d hd => ⟨(h.hh d hd).2.1, (h.hh d hd).2.2.2.1⟩
theorem RLn.AB {ν μ : m2M} {n p : Nat} (h : RLn ν μ n p) : ∀ d, d < n → hA ν d ≠ hB ν d := fun d hd => (h.hh d hd).2.2.2.2.1
/-- the way by DOORS of U -/
def wyU (ν : m2M) (n : Nat) (U : Nat → Bool) (frm goal : Nat) : Option (List Nat) := wy (hA ν) (hB ν) (hT ν) (fun d => if U d = true then 1 else 0) n 268435456 frm goal
/-- only the class's cells below the reference's -/
def frL (μ μ' : m2M) : Prop := fr (fun c => Nat.ble c 64) μ μ'
theorem frL.c {μ μ' : m2M} (h : frL μ μ') : frC μ μ' := by
  refine fr.mo h (fun c hc => ?_)
  have hc : (!isM c) = false := hc
  show Nat.ble c 64 = false
  cases e : Nat.ble c 64 with
  | false => rfl
  | true =>
    have e2 : isM c = false := by
      unfold isM
      have : Nat.ble 65 c = false := by
        cases e3 : Nat.ble 65 c with
        | false => rfl
        | true =>
          have := Nat.le_of_ble_eq_true e
          have := Nat.le_of_ble_eq_true e3
          omega
      rw [this]
      rfl
    rw [e2] at hc
    cases hc
def jC (μ μ' : m2M) : Prop := ag μ μ' ∧ frL μ μ'
/-- only what the reference's ways and prices write -/
def isQ (c : Nat) : Bool := (c == kM) || (c == kM_far) || (c == kM_way) || (c == kM_cost) || (c == kM_isOnWay) || (c == kM_onTheirWay)
def qj (j : Nat) : Bool := (Nat.ble 22 j && Nat.ble j 27) || (j == 30) || (j == 31) || (j == 37)
theorem isQ_of {c : Nat} (h : isQ c = true) : c = kM ∨ c = kM_far ∨ c = kM_way ∨ c = kM_cost ∨ c = kM_isOnWay ∨ c = kM_onTheirWay := by
  unfold isQ at h
  simp only [Bool.or_eq_true, beq_iff_eq] at h
  omega
def frP (μ μ' : m2M) : Prop := fr isQ μ μ' ∧ ∀ j, qj j = false → μ'.1 kM j = μ.1 kM j
theorem frP.m {μ μ' : m2M} (h : frP μ μ') : frM μ μ' := fr.mo h.1 (fun c hc => by
  cases e : isQ c with
  | false => rfl
  | true => rcases isQ_of e with rfl | rfl | rfl | rfl | rfl | rfl <;> cases hc)
def jM (μ μ' : m2M) : Prop := ag μ μ' ∧ frP μ μ'
theorem jM.p {μ μ' : m2M} (h : jM μ μ') (j : Nat) : μ'.1 kM_put j = μ.1 kM_put j := congrFun (h.2.1 kM_put rfl).1 j
theorem jC.rf {μ : m2M} : jC μ μ := ⟨ag.rf, fr.rf⟩
theorem jM.rf {μ : m2M} : jM μ μ := ⟨ag.rf, fr.rf, fun _ _ => rfl⟩
theorem jC.tr {μ ν ρ : m2M} (h1 : jC μ ν) (h2 : jC ν ρ) : jC μ ρ := ⟨h1.1.tr h2.1, h1.2.tr h2.2⟩
theorem jM.tr {μ ν ρ : m2M} (h1 : jM μ ν) (h2 : jM ν ρ) : jM μ ρ := ⟨h1.1.tr h2.1, h1.2.1.tr h2.2.1, fun j hj => (h2.2.2 j hj).trans (h1.2.2 j hj)⟩
theorem jC_sr {μ ν : m2M} {c : Nat} {f : Nat → Int32} (h : jC μ ν) (h1 : ∀ j, scr c j = true) (h2 : Nat.ble c 64 = true) : jC μ (m2_sr ν c f) := ⟨h.1.tr (ag_sr h1), fr_sr h2 h.2⟩
theorem jC_si {μ ν : m2M} {c j : Nat} {x : Int32} (h : jC μ ν) (h1 : scr c j = true) (h2 : Nat.ble c 64 = true) : jC μ (m2_si ν c j x) := ⟨h.1.tr (ag_si h1), fr_si h2 h.2⟩
theorem jM_sr {μ ν : m2M} {c : Nat} {f : Nat → Int32} (h : jM μ ν) (h1 : ∀ j, scr c j = true) (h2 : isQ c = true) : jM μ (m2_sr ν c f) := ⟨h.1.tr (ag_sr h1), fr_sr h2 h.2.1, fun j hj => by
  have hc : kM ≠ c := fun e => by subst e; exact absurd (h1 0) (by decide)
  rw [m2_sr_ne ν f hc]
  exact h.2.2 j hj⟩
theorem jM_si {μ ν : m2M} {c j : Nat} {x : Int32} (h : jM μ ν) (h1 : scr c j = true) (h2 : (isQ c && (!(c == kM) || qj j)) = true) : jM μ (m2_si ν c j x) := by
  rw [Bool.and_eq_true] at h2
  refine ⟨h.1.tr (ag_si h1), fr_si h2.1 h.2.1, fun i hi => ?_⟩
  by_cases hc : kM = c
  · subst hc
    have hj : i ≠ j := fun e => by
      subst e
      have := h2.2
      rw [hi] at this
      exact absurd this (by decide)
    unfold m2_si
    rw [m2_sr_same]
    unfold upd
    rw [if_neg hj]
    exact h.2.2 i hi
  · show (m2_sr ν c _).1 kM i = _
    rw [m2_sr_ne ν _ hc]
    exact h.2.2 i hi
theorem jM_sl {μ ν : m2M} {c : Nat} {f : Nat → Int64} (h : jM μ ν) (h1 : c ≠ kC_row) (h2 : c ≠ kM_row) (h3 : isQ c = true) : jM μ (m2_sl ν c f) := ⟨h.1.tr (ag_sl h1 h2), fr_sl h3 h.2.1, h.2.2⟩
theorem jC.R {ν μ μ' : m2M} {n p : Nat} (h : jC μ μ') (q : RLn ν μ n p) : RLn ν μ' n p := q.c h.1.c
theorem jM.v {ν μ μ' : m2M} (h : jM μ μ') (q : vM ν μ) : vM ν μ' := q.tr h.1.m
theorem r_junk.j {μ μ' : m2M} (h : r_junk μ μ') : jC μ μ' := by
  obtain ⟨g1, g2, g3, rfl⟩ := h
  exact jC_sr (jC_sr (jC_sr jC.rf (fun _ => rfl) rfl) (fun _ => rfl) rfl) (fun _ => rfl) rfl
theorem S_findU {D n p frm goal : Nat} (hD : 2 ≤ D) {U : Nat → Bool} (ν μ : m2M) (h : RLn ν μ n p) (hc : ∀ d, d < n → μ.1 kR_cost d = if U d = true then 1 else 0) (hfrm : frm < 12) (hgoal : goal < 12) : m2_MT D yX8_find cX8_find 3 (some .int) [.ref kR, .int (nI frm), .int (nI goal)] μ (fun r μ' => jC μ μ' ∧ μ'.1 kR_cost = μ.1 kR_cost ∧ match wyU ν n U frm goal with
    | none => r = some (.int (-1))
    | some l => r = some (.int (nI l.length)) ∧ ∀ i d, l[i]? = some d → μ'.1 kR_found i = nI d) := by
  refine (S_find (C := fun d => if U d = true then 1 else 0) hD μ h.cg (fun d hd => ?_) hfrm hgoal).mono ?_
  · rw [hc d hd]
    by_cases z : U d = true
    · simp only [if_pos z]; exact ⟨rfl, by decide⟩
    · simp only [if_neg z]; exact ⟨rfl, by decide⟩
  · rintro r μ' ⟨h1, h2⟩
    refine ⟨h1.j, ?_, h2⟩
    obtain ⟨g1, g2, g3, rfl⟩ := h1
    rfl
theorem S_findWayU {D n p frm goal : Nat} (hD : 1 ≤ D) {U : Nat → Bool} (ν μ μ0 : m2M) (h : RLn ν μ0 n p) (hv : vM ν μ) (hc : ∀ d, d < n → μ.1 kM_cost d = if U d = true then 1 else 100000000) (hfrm : frm < 12) (hgoal : goal < 12) : m2_MT D yX12_findWay cX12_findWay 7 (some .boolean) [.ref kM, .int (nI frm), .int (nI goal)] μ (fun r μ' => jM μ μ' ∧ match wyU ν n U frm goal with
    | none => r = some (.int 0)
    | some l => r = some (.int 1) ∧ μ'.1 kM 37 = nI l.length ∧ ∀ i d, l[i]? = some d → μ'.1 kM_way i = nI d) := by
  refine (S_findWay (C := fun d => if U d = true then 1001 else 0) hD μ (h.mg hv) (fun d hd => ?_) hfrm hgoal).mono ?_
  · rw [hc d hd]
    by_cases z : U d = true
    · rw [if_pos z]; exact Or.inr ⟨1, by decide, rfl, by simp only [if_pos z]⟩
    · rw [if_neg z]; exact Or.inl ⟨rfl, by simp only [if_neg z]⟩
  · rintro r μ' ⟨gl, gw, h1⟩
    unfold wyU
    rw [wy_open h.N h.AB hfrm hgoal]
    revert h1
    cases wy (hA ν) (hB ν) (hT ν) (fun d => if U d = true then 1001 else 0) n 1125899906842624 frm goal with
    | none =>
      rintro ⟨h1, rfl⟩
      exact ⟨jM_si (jM_sl jM.rf (by decide) (by decide) rfl) rfl rfl, h1⟩
    | some l =>
      rintro ⟨h1, rfl, h3, h4⟩
      exact ⟨jM_si (jM_sr (jM_sl jM.rf (by decide) (by decide) rfl) (fun _ => rfl) rfl) rfl rfl, h1, rfl, fun i d q => (h4 i d q).1⟩
def hO (ν : m2M) (d : Nat) : Bool := decide (0 < hL ν d)
theorem S_findOpenWay {D n p frm goal : Nat} (hD : 2 ≤ D) (ν μ μ0 : m2M) (h : RLn ν μ0 n p) (hv : vM ν μ) (hfrm : frm < 12) (hgoal : goal < 12) : m2_MT D yX12_findOpenWay cX12_findOpenWay 4 (some .boolean) [.ref kM, .int (nI frm), .int (nI goal)] μ (fun r μ' => jM μ μ' ∧ match wyU ν n (hO ν) frm goal with
    | none => r = some (.int 0)
    | some l => r = some (.int 1) ∧ μ'.1 kM 37 = nI l.length ∧ ∀ i d, l[i]? = some d → μ'.1 kM_way i = nI d) := by
  obtain ⟨D, rfl⟩ : ∃ E, D = E + 1 := ⟨D - 1, by omega⟩
  have hn := h.n20
  refine m2_MT.intro (ls := [.ref kM, .int (nI frm), .int (nI goal), .null]) (by decide +kernel) rfl (ble rfl) (fun κ hk => ?_)
  refine B_X12_findOpenWay_0 hk ?_
  have e0 : μ.1 kM 0 = nI n := (hv.1 kM 0 rfl rfl).trans h.1.2.1
  have key := dn (n := n) (G := fun i => κ 2 [.ref kM, .int (nI frm), .int (nI goal), .int (nI i)] [] (m2_sr μ kM_cost (lft (μ.1 kM_cost) (fun d => if hO ν d = true then 1 else 100000000) i))) ?_ (fun i hi ih => ?_)
  · rw [lft_0, m2_sr_id] at key
    exact key
  · have j1 : jM μ (m2_sr μ kM_cost (lft (μ.1 kM_cost) (fun d => if hO ν d = true then 1 else 100000000) n)) := jM_sr jM.rf (fun _ => rfl) rfl
    refine B_X12_findOpenWay_2 hk ⟨fun _ => ⟨_, S_findWayU (U := hO ν) (by omega) ν _ μ0 h (j1.v hv) (fun d hd => if_pos hd) hfrm hgoal, fun y3 μ4 r4 => ?_⟩, fun z => absurd (show μ.1 kM 0 ≤ nI n by rw [e0]; exact nI_le (Nat.le_refl n) (by omega)) z⟩
    refine ⟨?_, j1.tr r4.1, r4.2⟩
    have r5 := r4.2
    revert r5
    cases wyU ν n (hO ν) frm goal with
    | none => exact fun z => Or.inl (by cases z; rfl)
    | some l => exact fun z => Or.inr (by have := z.1; cases this; rfl)
  · refine B_X12_findOpenWay_2 hk ⟨fun z => absurd (show nI n ≤ nI i by rw [← e0]; exact z) (nI_ge hi (by omega)), fun _ => ⟨vp_in_nI (by omega) (by decide), ?_⟩⟩
    rw [nI_clamp (by omega), nI_1, m2_si_sr]
    have e1 : (m2_sr μ kM_cost (lft (μ.1 kM_cost) (fun d => if hO ν d = true then 1 else 100000000) i)).1 kM_left i = nI (hL ν i) := (hv.1 kM_left i rfl rfl).trans (h.hl i hi).1
    rw [e1, show (if nI (hL ν i) ≤ 0 then 100000000 else 1 : Int32) = (fun d => if hO ν d = true then (1 : Int32) else 100000000) i from ?_, lft_s]
    · exact ih
    · show _ = if hO ν i = true then (1 : Int32) else 100000000
      unfold hO
      have := (h.hl i hi).2
      by_cases z : 0 < hL ν i
      · rw [if_neg (nI_nle z (by omega)), if_pos (decide_eq_true z)]
      · rw [if_pos (by rw [show hL ν i = 0 by omega]; decide), if_neg (by simp [z])]
/-- tellRoute, tellWay -/
def lL (l : List Nat) : List Int64 := l.map lN
theorem lL_take {l : List Nat} {i d : Nat} (h : l[i]? = some d) : lL (l.take i) ++ [lN d] = lL (l.take (i + 1)) := by
  unfold lL
  rw [List.take_add_one, h]
  simp
theorem S_tellRoute {D : Nat} (hD : 1 ≤ D) (μ : m2M) {l : List Nat} (hl : l.length ≤ 12) (hf : ∀ i d, l[i]? = some d → μ.1 kR_found i = nI d ∧ d < 2 ^ 31) : m2_MT D yX11_tellRoute cX11_tellRoute 3 (some .int) [.ref kC, .int (nI l.length)] μ (fun r μ' => r = some (.int (nI l.length)) ∧ rC (lL l) μ' ∧ twC μ μ') := by
  obtain ⟨D, rfl⟩ : ∃ E, D = E + 1 := ⟨D - 1, by omega⟩
  refine m2_MT.intro (ls := [.ref kC, .int (nI l.length), .null]) (by decide +kernel) rfl (ble rfl) (fun κ hk => ?_)
  refine B_X11_tellRoute_0 hk ⟨fun _ => ?_, fun z => absurd z (nI_ne_m1 (by omega))⟩
  have key := dn (n := l.length) (G := fun i => ∀ μ1, rC (lL (l.take i)) μ1 → twC μ μ1 → κ 15 [.ref kC, .int (nI l.length), .int (nI i)] [] μ1) ?_ (fun i hi ih => ?_)
  · exact key _ rC.i twC.i
  · intro μ1 r1 t1
    rw [List.take_length] at r1
    exact B_X11_tellRoute_15 hk ⟨fun _ => ⟨rfl, r1, t1⟩, fun z => absurd (nI_le (Nat.le_refl _) (by omega)) z⟩
  · intro μ1 r1 t1
    refine B_X11_tellRoute_15 hk ⟨fun z => absurd z (nI_ge hi (by omega)), fun _ => ⟨vp_in_nI (by omega) (by decide), ?_⟩⟩
    rw [nI_clamp (by omega)]
    have e0 : l[i]? = some l[i] := List.getElem?_eq_getElem hi
    have e1 : μ1.1 kR_found i = nI l[i] := by
      obtain ⟨g, z, rfl⟩ := id t1
      exact (hf i _ e0).1
    rw [e1, nI_l (hf i _ e0).2]
    refine ⟨_, S_tellC _ _ r1 (by unfold lL; simp; omega), fun μ5 r5 => ?_⟩
    rw [lL_take e0] at r5
    rw [nI_1]
    exact ih μ5 r5.1 (t1.tr r5.2)
theorem S_tellWay {D : Nat} (hD : 1 ≤ D) (μ : m2M) {l : List Nat} (hl : l.length ≤ 12) (h0 : rM [] μ) (h37 : μ.1 kM 37 = nI l.length) (hf : ∀ i d, l[i]? = some d → μ.1 kM_way i = nI d ∧ d < 2 ^ 31) : m2_MT D yX12_tellWay cX12_tellWay 2 none [.ref kM] μ (fun _ μ' => rM (lL l) μ' ∧ twM μ μ' ∧ μ'.1 kM 37 = nI l.length) := by
  obtain ⟨D, rfl⟩ : ∃ E, D = E + 1 := ⟨D - 1, by omega⟩
  refine m2_MT.intro (ls := [.ref kM, .null]) (by decide +kernel) rfl (ble rfl) (fun κ hk => ?_)
  refine B_X12_tellWay_0 hk ?_
  have key := dn (n := l.length) (G := fun i => ∀ μ1, rM (lL (l.take i)) μ1 → (∃ g z, μ1 = m2_si (m2_sl μ kM_row g) kM 21 z) → κ 2 [.ref kM, .int (nI i)] [] μ1) ?_ (fun i hi ih => ?_)
  · refine key μ h0 ⟨μ.2 kM_row, μ.1 kM 21, ?_⟩
    rw [m2_sl_id, m2_si_id rfl]
  · intro μ1 r1 t1
    rw [List.take_length] at r1
    have e37 : μ1.1 kM 37 = nI l.length := by
      obtain ⟨g, z, rfl⟩ := id t1
      exact h37
    exact B_X12_tellWay_2 hk ⟨fun _ => ⟨r1, t1, e37⟩, fun z => absurd (by rw [e37]; exact nI_le (Nat.le_refl _) (by omega)) z⟩
  · intro μ1 r1 t1
    have e37 : μ1.1 kM 37 = nI l.length := by
      obtain ⟨g, z, rfl⟩ := id t1
      exact h37
    refine B_X12_tellWay_2 hk ⟨fun z => absurd (by rw [e37] at z; exact z) (nI_ge hi (by omega)), fun _ => ⟨vp_in_nI (by omega) (by decide), ?_⟩⟩
    rw [nI_clamp (by omega)]
    have e0 : l[i]? = some l[i] := List.getElem?_eq_getElem hi
    have e1 : μ1.1 kM_way i = nI l[i] := by
      obtain ⟨g, z, rfl⟩ := id t1
      exact (hf i _ e0).1
    rw [e1, nI_l (hf i _ e0).2]
    refine ⟨_, S_tellM _ _ r1 (by unfold lL; simp; omega), fun μ5 r5 => ?_⟩
    rw [lL_take e0] at r5
    rw [nI_1]
    exact ih μ5 r5.1 (twM.tr t1 r5.2)
