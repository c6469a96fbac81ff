/-! two: the class's search -/
def stA (b : tB) (M : m2M) : Prop := match b with
  | none => M.1 kA 8 = 11
  | some q => ∃ P Q : List Nat, q = tw P Q ∧ P.length ≤ 5 ∧ Q.length ≤ 5 ∧ M.1 kA 8 = nI q.1 ∧ M.1 kA 5 = nI P.length ∧ M.1 kA 7 = nI Q.length ∧ (∀ i d, P[i]? = some d → M.1 kA_first i = nI d) ∧ ∀ i d, Q[i]? = some d → M.1 kA_second i = nI d
theorem stA.of {b : tB} {M M' : m2M} (h : stA b M) (h0 : ∀ j, M'.1 kA j = M.1 kA j) (h1 : M'.1 kA_first = M.1 kA_first) (h2 : M'.1 kA_second = M.1 kA_second) : stA b M' := by
  cases b with
  | none => exact (h0 8).trans h
  | some q =>
    obtain ⟨P, Q, a1, a2, a3, a4, a5, a6, a7, a8⟩ := h
    refine ⟨P, Q, a1, a2, a3, (h0 8).trans a4, (h0 5).trans a5, (h0 7).trans a6, fun i d hi => ?_, fun i d hi => ?_⟩
    · rw [h1]; exact a7 i d hi
    · rw [h2]; exact a8 i d hi
theorem stA.le {q : Nat × List Nat} {M : m2M} (h : stA (some q) M) : q.1 ≤ 10 ∧ M.1 kA 8 = nI q.1 := by
  obtain ⟨P, Q, a1, a2, a3, a4, _⟩ := h
  refine ⟨?_, a4⟩
  rw [a1]
  show P.length + Q.length ≤ 10
  omega
/-- the class's search leaves what it was begun with -/
def frPa (μ μ' : m2M) : Prop := jC μ μ' ∧ (∀ j, 9 ≤ j → μ'.1 kA j = μ.1 kA j) ∧ μ'.1 kA_toGoal = μ.1 kA_toGoal
theorem frPa.rf {μ : m2M} : frPa μ μ := ⟨jC.rf, fun _ _ => rfl, rfl⟩
theorem frPa.tr {μ ν ρ : m2M} (h1 : frPa μ ν) (h2 : frPa ν ρ) : frPa μ ρ := ⟨h1.1.tr h2.1, fun j hj => (h2.2.1 j hj).trans (h1.2.1 j hj), h2.2.2.trans h1.2.2⟩
theorem cg_bey {μ : m2M} {n : Nat} {A B : Nat → Nat} {T : Nat → Bool} (hg : cg μ n A B T) {d u : Nat} (hd : d < n) (hu : u < 12) : fX0_beyond (nI d) (nI u) μ = (match bey A B T d u with | none => -1 | some v => nI v) := by
  obtain ⟨ea, hA, eb, hB, hab, et⟩ := hg.2.2 d hd
  have hn := hg.2.1
  unfold fX0_beyond bey
  rw [nI_clamp (by omega), ea, eb, et]
  by_cases h1 : A d = u
  · rw [if_pos (by rw [h1]), if_pos h1]
  · rw [if_neg (fun z => h1 ((nI_eq (by omega) (by omega)).mp z)), if_neg h1]
    by_cases h2 : B d = u
    · rw [if_pos (by rw [h2])]
      cases hT : T d with
      | true => simp [h2]
      | false => simp
    · rw [if_neg (fun z => h2 ((nI_eq (by omega) (by omega)).mp z)), if_neg (fun z => h2 z.1)]
/-- which DOORS the other one can use -/
theorem tU_P {W : Nat → Nat} {c1 c2 : Bool} {P : List Nat} {d : Nat} : tU W (LPw W c1 P) c2 d = true ↔ 0 < W d ∧ ¬ ((c1 && c2) = true ∧ d ∈ P ∧ W d < 2) := by
  rw [tU_iff]
  unfold LPw
  cases c1 <;> cases c2 <;> by_cases z : d ∈ P <;> simp [z] <;> omega
theorem twG_wy {ν μ : m2M} {n p w2 g2 : Nat} (h : RLn ν μ n p) {c1 c2 : Bool} (hw2 : w2 < 12) (hg2 : g2 < 12) (P : List Nat) : twG (hA ν) (hB ν) (hT ν) (hL ν) n c1 c2 w2 g2 P = (match wyU ν n (tU (hL ν) (LPw (hL ν) c1 P) c2) w2 g2 with
    | none => none
    | some l => if l.length ≤ 5 then some (tw P l) else none) := by
  unfold twG wyU
  exact dff_wy (s := P.length) (H := P.length :: P) (k := 5) h.N h.AB hg2 hw2 (by decide) (fun v hv => by unfold eqB; exact decide_eq_false hv)
theorem twG_q {A B : Nat → Nat} {T : Nat → Bool} {W : Nat → Nat} {n : Nat} {c1 c2 : Bool} {w2 g2 : Nat} {P : List Nat} {q : Nat × List Nat} (h : twG A B T W n c1 c2 w2 g2 P = some q) : ∃ Q, Q.length ≤ 5 ∧ q = tw P Q := by
  obtain ⟨R, r1, r2⟩ := dff_P h
  have r2 : some (tw P ([] ++ R)) = some q := r2
  exact ⟨R, r1, (Option.some.inj r2).symm⟩
theorem twG_d {ν μ : m2M} {n p w2 g2 : Nat} (h : RLn ν μ n p) {c1 c2 : Bool} (hg2 : g2 < 12) {P : List Nat} {q : Nat × List Nat} (e : twG (hA ν) (hB ν) (hT ν) (hL ν) n c1 c2 w2 g2 P = some q) : P.length + dF ν n w2 g2 ≤ q.1 := by
  have hF := wy_F (A := hA ν) (B := hB ν) (T := hT ν) (C := fun d => if hO ν d = true then 1 else 0) (n := n) (far := 268435456) (goal := g2) h.N h.AB hg2
  have := (dff_ge (f := fun u => dF ν n u g2) (m := P.length) hF.1 (fun d u v hd hU hb => hF.2.2.1 u v 1 (bey_E hd (by have := (tU_iff.mp hU).1; unfold hO; exact decide_eq_true (by omega)) hb)) (fun Q q h => by
    have h : some (tw P Q) = some q := h
    cases h
    show Q.length + P.length ≤ P.length + Q.length
    omega) e).1
  have e0 : ([] : List Nat).length = 0 := rfl
  omega
theorem dF_le {ν μ : m2M} {n p a b : Nat} (h : RLn ν μ n p) (hb : b < 12) : dF ν n a b ≤ 268435456 := (wy_F h.N h.AB hb).2.1 a
set_option maxHeartbeats 1000000 in
theorem S_tryOther {D n p g1 w2 g2 : Nat} {c1 c2 : Bool} {P : List Nat} {b : tB} (hD : 3 ≤ D) (ν μ : m2M) (h : RLn ν μ n p) (hw2 : w2 < 12) (hg2 : g2 < 12) (h10 : μ.1 kA 10 = nI w2) (h11 : μ.1 kA 11 = nI g2) (h13 : μ.1 kA 13 = if (c1 && c2) = true then 1 else 0) (hP5 : P.length ≤ 5) (hP : ∀ d, d ∈ P → d < n) (htr : ∀ i d, P[i]? = some d → μ.1 kA_tried i = nI d) (hb : stA b μ) : m2_MT D yX5_tryOther cX5_tryOther 3 none [.ref kA, .int (nI P.length)] μ (fun _ μ' => frPa μ μ' ∧ μ'.1 kA_tried = μ.1 kA_tried ∧ stA (mrg b (twG (hA ν) (hB ν) (hT ν) (hL ν) n c1 c2 w2 g2 P)) μ') := by
  obtain ⟨D, rfl⟩ : ∃ E, D = E + 1 := ⟨D - 1, by omega⟩
  have hn := h.n20
  refine m2_MT.intro (ls := [.ref kA, .int (nI P.length), .null]) (by decide +kernel) rfl (ble rfl) (fun κ hκ => ?_)
  refine B_X5_tryOther_0 hκ ⟨_, S_useAbove (m := 0) (by omega) _ h.1.1 hn (fun d hd => ⟨(h.cl d hd).1, by have := (h.cl d hd).2; omega⟩) (by decide), fun μ2 e2 => ?_⟩
  have l0 : ∀ M : m2M, (∃ f, M = m2_sr μ kR_cost f) → (∀ j, M.1 kA j = μ.1 kA j) ∧ M.1 kA_tried = μ.1 kA_tried ∧ M.1 kD_left = μ.1 kD_left ∧ M.1 kA_first = μ.1 kA_first ∧ M.1 kA_second = μ.1 kA_second ∧ M.1 kA_toGoal = μ.1 kA_toGoal ∧ jC μ M := by
    rintro M ⟨f, rfl⟩
    refine ⟨fun j => ?_, ?_, ?_, ?_, ?_, ?_, jC_sr jC.rf (fun _ => rfl) rfl⟩ <;> rw [m2_sr_ne _ _ (by decide)]
  -- behind the costs
  have g61 : ∀ (M : m2M) (v2 : Int32), (∃ f, M = m2_sr μ kR_cost f) → (∀ d, d < n → M.1 kR_cost d = if tU (hL ν) (LPw (hL ν) c1 P) c2 d = true then 1 else 0) → κ 61 [.ref kA, .int (nI P.length), .int v2] [] M := by
    intro M v2 hMf hc
    obtain ⟨a1, a2, a3, a4, a5, a6, j1⟩ := l0 M hMf
    have hR1 := j1.R h
    refine B_X5_tryOther_61 hκ ?_
    rw [a1 10, h10, a1 11, h11]
    refine ⟨_, S_find (D := D) (C := fun d => if tU (hL ν) (LPw (hL ν) c1 P) c2 d = true then 1 else 0) (by omega) M hR1.cg (fun d hd => ?_) hw2 hg2, fun y1 μ3 h3 => ?_⟩
    · rw [hc d hd]
      by_cases z : tU (hL ν) (LPw (hL ν) c1 P) c2 d = true
      · simp only [if_pos z]; exact ⟨rfl, by decide⟩
      · simp only [if_neg z]; exact ⟨rfl, by decide⟩
    · obtain ⟨hj, h3⟩ := h3
      have j3 : jC μ μ3 := j1.tr hj.j
      obtain ⟨g1, g2', g3, e3⟩ := hj
      have b1 : ∀ j, μ3.1 kA j = μ.1 kA j := fun j => by rw [e3, m2_sr_ne _ _ (by decide), m2_sr_ne _ _ (by decide), m2_sr_ne _ _ (by decide)]; exact a1 j
      have b2 : μ3.1 kA_tried = μ.1 kA_tried := by rw [e3, m2_sr_ne _ _ (by decide), m2_sr_ne _ _ (by decide), m2_sr_ne _ _ (by decide)]; exact a2
      have b4 : μ3.1 kA_first = μ.1 kA_first := by rw [e3, m2_sr_ne _ _ (by decide), m2_sr_ne _ _ (by decide), m2_sr_ne _ _ (by decide)]; exact a4
      have b5 : μ3.1 kA_second = μ.1 kA_second := by rw [e3, m2_sr_ne _ _ (by decide), m2_sr_ne _ _ (by decide), m2_sr_ne _ _ (by decide)]; exact a5
      have b6 : μ3.1 kA_toGoal = μ.1 kA_toGoal := by rw [e3, m2_sr_ne _ _ (by decide), m2_sr_ne _ _ (by decide), m2_sr_ne _ _ (by decide)]; exact a6
      have hb3 : stA b μ3 := hb.of b1 b4 b5
      have eG := twG_wy h (c1 := c1) (c2 := c2) hw2 hg2 P
      have g97 : ∀ y : Int32, mrg b (twG (hA ν) (hB ν) (hT ν) (hL ν) n c1 c2 w2 g2 P) = b → κ 97 [.ref kA, .int (nI P.length), .int y] [] μ3 := fun y em => B_X5_tryOther_97 hκ ⟨⟨j3, fun j _ => b1 j, b6⟩, b2, by rw [em]; exact hb3⟩
      have h3 : (match wyU ν n (tU (hL ν) (LPw (hL ν) c1 P) c2) w2 g2 with
        | none => some (Value.int y1) = some (.int (-1))
        | some l => some (Value.int y1) = some (.int (nI l.length)) ∧ ∀ i d, l[i]? = some d → μ3.1 kR_found i = nI d) := h3
      rcases ew : wyU ν n (tU (hL ν) (LPw (hL ν) c1 P) c2) w2 g2 with _ | l
      · rw [ew] at h3 eG
        have h3 : some (Value.int y1) = some (.int (-1)) := h3
        cases h3
        have eG : twG (hA ν) (hB ν) (hT ν) (hL ν) n c1 c2 w2 g2 P = none := eG
        exact ⟨fun _ => g97 _ (by rw [eG]; rfl), fun w => absurd rfl w⟩
      · rw [ew] at h3 eG
        obtain ⟨h3, h4⟩ := h3
        cases h3
        have hl := (wyU_ok h hw2 hg2 ew).2.2.1
        have eG : twG (hA ν) (hB ν) (hT ν) (hL ν) n c1 c2 w2 g2 P = if l.length ≤ 5 then some (tw P l) else none := eG
        refine ⟨fun w => absurd w (nI_ne_m1 (by omega)), fun _ => pk_lt 5 l.length (fun z => g97 _ (by rw [eG, if_neg (by omega)]; rfl)) (fun z => ?_) rfl rfl (by decide) (by omega)⟩
        rw [if_pos z] at eG
        rw [nI_add, b1 8]
        have wr : mrg b (some (tw P l)) = some (tw P l) → (¬ nI P.length < 0) ∧ ((((0 : Int32)).toNatClampNeg + (nI P.length).toNatClampNeg ≤ 5) ∧ ((¬ nI l.length < 0) ∧ ((((0 : Int32)).toNatClampNeg + (nI l.length).toNatClampNeg ≤ 12) ∧ ((((0 : Int32)).toNatClampNeg + (nI l.length).toNatClampNeg ≤ 5) ∧ ((fun (_ : Option Value) μ' => frPa μ μ' ∧ μ'.1 kA_tried = μ.1 kA_tried ∧ stA (mrg b (twG (hA ν) (hB ν) (hT ν) (hL ν) n c1 c2 w2 g2 P)) μ') none (m2_sr (m2_sr (m2_si (m2_si (m2_si μ3 kA 8 (nI (P.length + l.length))) kA 5 (nI P.length)) kA 7 (nI l.length)) kA_first (va_cpy (((m2_si (m2_si (m2_si μ3 kA 8 (nI (P.length + l.length))) kA 5 (nI P.length)) kA 7 (nI l.length))).1 kA_tried) (((m2_si (m2_si (m2_si μ3 kA 8 (nI (P.length + l.length))) kA 5 (nI P.length)) kA 7 (nI l.length))).1 kA_first) ((0 : Int32)).toNatClampNeg ((0 : Int32)).toNatClampNeg (nI P.length).toNatClampNeg)) kA_second (va_cpy (((m2_sr (m2_si (m2_si (m2_si μ3 kA 8 (nI (P.length + l.length))) kA 5 (nI P.length)) kA 7 (nI l.length)) kA_first (va_cpy (((m2_si (m2_si (m2_si μ3 kA 8 (nI (P.length + l.length))) kA 5 (nI P.length)) kA 7 (nI l.length))).1 kA_tried) (((m2_si (m2_si (m2_si μ3 kA 8 (nI (P.length + l.length))) kA 5 (nI P.length)) kA 7 (nI l.length))).1 kA_first) ((0 : Int32)).toNatClampNeg ((0 : Int32)).toNatClampNeg (nI P.length).toNatClampNeg))).1 kR_found) (((m2_sr (m2_si (m2_si (m2_si μ3 kA 8 (nI (P.length + l.length))) kA 5 (nI P.length)) kA 7 (nI l.length)) kA_first (va_cpy (((m2_si (m2_si (m2_si μ3 kA 8 (nI (P.length + l.length))) kA 5 (nI P.length)) kA 7 (nI l.length))).1 kA_tried) (((m2_si (m2_si (m2_si μ3 kA 8 (nI (P.length + l.length))) kA 5 (nI P.length)) kA 7 (nI l.length))).1 kA_first) ((0 : Int32)).toNatClampNeg ((0 : Int32)).toNatClampNeg (nI P.length).toNatClampNeg))).1 kA_second) ((0 : Int32)).toNatClampNeg ((0 : Int32)).toNatClampNeg (nI l.length).toNatClampNeg))))))) := by
          intro em
          rw [c0_0, nI_clamp (by omega), nI_clamp (by omega)]
          refine ⟨nI_pos (by omega), by omega, nI_pos (by omega), by omega, by omega, ⟨?_, ?_, ?_⟩, ?_, ?_⟩
          · exact jC_sr (jC_sr (jC_si (jC_si (jC_si j3 rfl rfl) rfl rfl) rfl rfl) (fun _ => rfl) rfl) (fun _ => rfl) rfl
          · intro j hj
            rw [m2_sr_ne _ _ (by decide), m2_sr_ne _ _ (by decide), si_nj _ _ _ (by omega), si_nj _ _ _ (by omega), si_nj _ _ _ (by omega)]
            exact b1 j
          · rw [m2_sr_ne _ _ (by decide), m2_sr_ne _ _ (by decide), si_nc _ _ _ (by decide), si_nc _ _ _ (by decide), si_nc _ _ _ (by decide)]
            exact b6
          · rw [m2_sr_ne _ _ (by decide), m2_sr_ne _ _ (by decide), si_nc _ _ _ (by decide), si_nc _ _ _ (by decide), si_nc _ _ _ (by decide)]
            exact b2
          · rw [eG, em]
            refine ⟨P, l, rfl, hP5, z, ?_, ?_, ?_, fun i d hi => ?_, fun i d hi => ?_⟩
            · rw [m2_sr_ne _ _ (by decide), m2_sr_ne _ _ (by decide), si_nj _ _ _ (by decide), si_nj _ _ _ (by decide), si_at]
              rfl
            · rw [m2_sr_ne _ _ (by decide), m2_sr_ne _ _ (by decide), si_nj _ _ _ (by decide), si_at]
            · rw [m2_sr_ne _ _ (by decide), m2_sr_ne _ _ (by decide), si_at]
            · have hil := (List.getElem?_eq_some_iff.mp hi).1
              rw [m2_sr_ne _ _ (by decide), m2_sr_same, pk_cpy_in (Nat.zero_le i) (by omega), si_nc _ _ _ (by decide), si_nc _ _ _ (by decide), si_nc _ _ _ (by decide), b2]
              simp only [Nat.zero_add, Nat.sub_zero]
              exact htr i d hi
            · have hil := (List.getElem?_eq_some_iff.mp hi).1
              rw [m2_sr_same, pk_cpy_in (Nat.zero_le i) (by omega), m2_sr_ne _ _ (by decide), si_nc _ _ _ (by decide), si_nc _ _ _ (by decide), si_nc _ _ _ (by decide)]
              simp only [Nat.zero_add, Nat.sub_zero]
              exact h4 i d hi
        cases b with
        | none =>
          have e8 : μ.1 kA 8 = nI 11 := hb
          rw [e8]
          exact pk_lt (P.length + l.length) 11 (fun _ => wr rfl) (fun y => absurd y (by omega)) rfl rfl (by omega) (by decide)
        | some q0 =>
          obtain ⟨l1, l2⟩ := hb.le
          rw [l2]
          refine pk_lt (P.length + l.length) q0.1 (fun y => wr (if_pos y)) (fun y => g97 _ ?_) rfl rfl (by omega) (by omega)
          rw [eG]
          exact if_neg (by show ¬ P.length + l.length < q0.1; omega)
  -- costs, as they are at place i
  refine dn (n := P.length) (G := fun i => ∀ M : m2M, (∃ f, M = m2_sr μ kR_cost f) → (∀ d, d < n → M.1 kR_cost d = if 0 < hL ν d ∧ ¬ ((c1 && c2) = true ∧ d ∈ P.take i ∧ hL ν d < 2) then 1 else 0) → κ 10 [.ref kA, .int (nI P.length), .int (nI i)] [] M) (fun M hMf hc => ?_) (fun i hi ih M hMf hc => ?_) μ2 ⟨_, e2⟩ (fun d hd => ?_)
  · refine B_X5_tryOther_10 hκ ⟨fun _ => g61 M _ hMf (fun d hd => ?_), fun w => absurd (nI_le (Nat.le_refl _) (by omega)) w⟩
    rw [hc d hd, List.take_length]
    by_cases z : tU (hL ν) (LPw (hL ν) c1 P) c2 d = true
    · rw [if_pos z, if_pos (tU_P.mp z)]
    · rw [if_neg z, if_neg (fun w => z (tU_P.mpr w))]
  · obtain ⟨a1, a2, a3, a4, a5, a6, j1⟩ := l0 M hMf
    refine B_X5_tryOther_10 hκ ⟨fun w => absurd w (nI_ge hi (by omega)), fun _ => ⟨fun w => ?_, fun w => ?_⟩⟩
    · have e13 : (c1 && c2) = false := by
        rw [a1 13, h13] at w
        cases z : (c1 && c2) with
        | false => rfl
        | true => rw [z] at w; exact absurd w (by decide)
      refine g61 M _ hMf (fun d hd => ?_)
      rw [hc d hd]
      by_cases z : tU (hL ν) (LPw (hL ν) c1 P) c2 d = true
      · rw [if_pos z, if_pos ⟨(tU_P.mp z).1, fun w => by rw [e13] at w; cases w.1⟩]
      · rw [if_neg z, if_neg (fun w => z (tU_P.mpr ⟨w.1, fun w => by rw [e13] at w; cases w.1⟩))]
    · have e13 : (c1 && c2) = true := by
        rw [a1 13, h13] at w
        cases z : (c1 && c2) with
        | true => rfl
        | false => rw [z] at w; exact absurd rfl w
      obtain ⟨d, ed⟩ : ∃ d, P[i]? = some d := ⟨P[i], List.getElem?_eq_getElem hi⟩
      have hdn : d < n := hP d (List.mem_of_getElem? ed)
      have hcl := h.cl d hdn
      refine ⟨vp_in_nI (by omega) (by decide), ?_⟩
      rw [nI_clamp (by omega), a2, htr i d ed]
      refine ⟨vp_in_nI (by omega) (by decide), ?_⟩
      rw [nI_clamp (by omega), a3, hcl.1]
      refine pk_le 2 (hL ν d) (fun z => ?_) (fun z => ?_) rfl rfl (by decide) (by omega)
      · refine B_X5_tryOther_55 hκ ?_
        rw [nI_1]
        refine ih M hMf (fun e he => ?_)
        rw [hc e he]
        by_cases y : e = d
        · subst y
          rw [if_pos ⟨by omega, fun w => by omega⟩, if_pos ⟨by omega, fun w => by omega⟩]
        · have : e ∈ P.take (i + 1) ↔ e ∈ P.take i := by rw [take_s ed]; simp [y]
          simp only [this]
      · refine B_X5_tryOther_55 hκ ?_
        rw [nI_1]
        obtain ⟨f, rfl⟩ := hMf
        refine ih _ ⟨upd f d 0, m2_si_sr μ kR_cost d f 0⟩ (fun e he => ?_)
        by_cases y : e = d
        · subst y
          rw [si_at, if_neg (fun w => w.2 ⟨e13, (take_s ed e).mpr (Or.inr rfl), z⟩)]
        · rw [si_nj _ _ _ y, hc e he]
          have : e ∈ P.take (i + 1) ↔ e ∈ P.take i := by rw [take_s ed]; simp [y]
          simp only [this]
  · rw [e2, m2_sr_same, if_pos hd, List.take_zero]
    by_cases z : 0 < hL ν d
    · rw [if_pos z, if_pos ⟨z, fun w => by simp at w⟩]
    · rw [if_neg z, if_neg (fun w => z w.1)]
