/-! two: the reference's search -/
def isW2 (c : Nat) : Bool := (c == kM) || (c == kM_firstWay) || (c == kM_secondWay) || (c == kM_bestTwo)
/-- what twoFrom leaves as it was, LEFT too -/
def frW2 (μ μ' : m2M) : Prop := (∀ c, isW2 c = false → μ'.1 c = μ.1 c) ∧ (∀ c, μ'.2 c = μ.2 c) ∧ ∀ j, j ≠ 57 → j ≠ 58 → μ'.1 kM j = μ.1 kM j
theorem frW2.rf {μ : m2M} : frW2 μ μ := ⟨fun _ _ => rfl, fun _ => rfl, fun _ _ _ => rfl⟩
theorem frW2.tr {μ ν ρ : m2M} (h1 : frW2 μ ν) (h2 : frW2 ν ρ) : frW2 μ ρ := ⟨fun c h => (h2.1 c h).trans (h1.1 c h), fun c => (h2.2.1 c).trans (h1.2.1 c), fun j a b => (h2.2.2 j a b).trans (h1.2.2 j a b)⟩
theorem frW2.si {μ μ' : m2M} {c j : Nat} {x : Int32} (h : frW2 μ μ') (hc : isW2 c = true) (hj : c = kM → j = 57 ∨ j = 58) : frW2 μ (m2_si μ' c j x) := by
  refine ⟨fun c' h' => ?_, fun c' => h.2.1 c', fun j' a b => ?_⟩
  · rw [si_nc _ _ _ (fun e => by rw [e, hc] at h'; cases h')]
    exact h.1 c' h'
  · by_cases e : c = kM
    · subst e
      rw [si_nj _ _ _ (by rcases hj rfl with w | w <;> omega)]
      exact h.2.2 j' a b
    · rw [si_nc _ _ _ (Ne.symm e)]
      exact h.2.2 j' a b
theorem frW2_left {M M2 : m2M} {cW i d : Nat} {x : Int32} (hc : cW = kM_secondWay ∨ cW = kM_firstWay) (h : frW2 (m2_si (m2_si M cW i x) kM_left d ((m2_si M cW i x).1 kM_left d - 1)) M2) : frW2 M (m2_si M2 kM_left d (M2.1 kM_left d + 1)) := by
  have hcT : isW2 cW = true := by rcases hc with e | e <;> rw [e] <;> rfl
  have hck : cW ≠ kM := by rcases hc with e | e <;> rw [e] <;> decide
  have hcl : kM_left ≠ cW := by rcases hc with e | e <;> rw [e] <;> decide
  obtain ⟨h1, h2, h3⟩ := h
  have el : M2.1 kM_left = upd (M.1 kM_left) d (M.1 kM_left d - 1) := by
    rw [h1 kM_left rfl]
    unfold m2_si
    rw [m2_sr_same, m2_sr_ne _ _ hcl]
  refine ⟨fun c hc' => ?_, fun c => h2 c, fun j a b => ?_⟩
  · by_cases e : c = kM_left
    · subst e
      unfold m2_si
      rw [m2_sr_same, el]
      funext j
      unfold upd
      by_cases ej : j = d
      · subst ej
        simp only [if_true]
        exact sub_add1 _
      · simp only [if_neg ej]
    · rw [si_nc _ _ _ e, h1 c hc', si_nc _ _ _ e, si_nc _ _ _ (fun w => by rw [w, hcT] at hc'; cases hc')]
  · rw [si_nc _ _ _ (by decide), h3 j a b, si_nc _ _ _ (by decide), si_nc _ _ _ (Ne.symm hck)]
def tw (P Q : List Nat) : Nat × List Nat := (P.length + Q.length, (P.length :: P) ++ Q)
def stT (b : tB) (M : m2M) : Prop := match b with
  | none => M.1 kM 58 = -1
  | some q => ∃ P Q : List Nat, q = tw P Q ∧ P.length ≤ 5 ∧ Q.length ≤ 5 ∧ M.1 kM 58 = nI q.1 ∧ M.1 kM_bestTwo 0 = nI P.length ∧ (∀ i d, P[i]? = some d → M.1 kM_bestTwo (1 + i) = nI d) ∧ M.1 kM_bestTwo (1 + P.length) = nI Q.length ∧ ∀ i d, Q[i]? = some d → M.1 kM_bestTwo (2 + P.length + i) = nI d
theorem stT.of {b : tB} {M M' : m2M} (h : stT b M) (h1 : M'.1 kM 58 = M.1 kM 58) (h2 : M'.1 kM_bestTwo = M.1 kM_bestTwo) : stT b M' := by
  cases b with
  | none => exact h1.trans h
  | some q =>
    obtain ⟨P, Q, a1, a2, a3, a4, a5, a6, a7, a8⟩ := h
    refine ⟨P, Q, a1, a2, a3, h1.trans a4, ?_, fun i d hi => ?_, ?_, fun i d hi => ?_⟩
    · rw [h2]; exact a5
    · rw [h2]; exact a6 i d hi
    · rw [h2]; exact a7
    · rw [h2]; exact a8 i d hi
theorem stT.le {q : Nat × List Nat} {M : m2M} (h : stT (some q) M) : q.1 ≤ 10 ∧ M.1 kM 58 = nI q.1 := by
  obtain ⟨P, Q, a1, a2, a3, a4, _⟩ := h
  refine ⟨?_, a4⟩
  rw [a1]
  show P.length + Q.length ≤ 10
  omega
/-- the house as twoFrom sees it -/
def tI (μ : m2M) (n : Nat) (A B : Nat → Nat) (T : Nat → Bool) (W : Nat → Nat) (x1 : Int32) (who goal : Nat) (cnt : Bool) : Prop := mg μ n A B T ∧ (∀ d, d < n → μ.1 kM_wasLeft d = nI (W d) ∧ W d < 61) ∧ who < 8 ∧ (if x1 = 0 then μ.1 kM 60 else μ.1 kM 59) = nI who ∧ (if x1 = 0 then μ.1 kM 62 else μ.1 kM 61) = nI goal ∧ goal < 12 ∧ μ.1 kM_isStranger who = (if cnt = true then 0 else 1)
theorem tI.of {μ M : m2M} {n : Nat} {A B : Nat → Nat} {T : Nat → Bool} {W : Nat → Nat} {x1 : Int32} {who goal : Nat} {cnt : Bool} (h : tI μ n A B T W x1 who goal cnt) (e : ∀ c, isW2 c = false → c ≠ kM_left → M.1 c = μ.1 c) (e2 : ∀ j, j ≠ 57 → j ≠ 58 → M.1 kM j = μ.1 kM j) : tI M n A B T W x1 who goal cnt := by
  obtain ⟨⟨m1, m2, m3⟩, h2, h3, h4, h5, h6, h7⟩ := h
  refine ⟨⟨?_, m2, fun d hd => ?_⟩, fun d hd => ?_, h3, ?_, ?_, h6, ?_⟩
  · rw [e2 0 (by decide) (by decide)]; exact m1
  · rw [e kM_doorA rfl (by decide), e kM_doorB rfl (by decide), e kM_isOneWay rfl (by decide)]; exact m3 d hd
  · rw [e kM_wasLeft rfl (by decide)]; exact h2 d hd
  · rw [e2 60 (by decide) (by decide), e2 59 (by decide) (by decide)]; exact h4
  · rw [e2 62 (by decide) (by decide), e2 61 (by decide) (by decide)]; exact h5
  · rw [e kM_isStranger rfl (by decide)]; exact h7
theorem mg_bey {μ : m2M} {n : Nat} {A B : Nat → Nat} {T : Nat → Bool} (hg : mg μ n A B T) {d u : Nat} (hd : d < n) (hu : u < 12) : fX12_beyond (nI d) (nI u) μ = (match bey A B T d u with | none => -1 | some v => nI v) := by
  rw [mg_beyond hg hd hu]
  unfold bey
  by_cases e : A d = u
  · rw [if_pos e, if_pos e]
  · rw [if_neg e, if_neg e]
    by_cases e2 : B d = u ∧ T d = true
    · rw [if_pos e2, if_pos e2]
    · rw [if_neg e2, if_neg e2]
theorem bey_lt {μ : m2M} {n : Nat} {A B : Nat → Nat} {T : Nat → Bool} (hg : mg μ n A B T) {d u v : Nat} (hd : d < n) (h : bey A B T d u = some v) : v < 12 := by
  obtain ⟨_, a1, _, a2, _⟩ := hg.2.2 d hd
  rcases bey_iff h with ⟨_, e⟩ | ⟨_, _, e⟩
  · rw [← e]; exact a2
  · rw [← e]; exact a1
/-- LEFT while one of the two goes by Q -/
def tL (μ : m2M) (n : Nat) (L : Nat → Nat) (cnt : Bool) (Q : List Nat) : Prop := ∀ d, d < n → μ.1 kM_left d = if cnt = true ∧ d ∈ Q then nI (L d) - 1 else nI (L d)
def tU (W L : Nat → Nat) (cnt : Bool) (d : Nat) : Bool := decide (W d ≠ 0) && (!cnt || decide (L d ≠ 0))
theorem tU_iff {W L : Nat → Nat} {cnt : Bool} {d : Nat} : tU W L cnt d = true ↔ W d ≠ 0 ∧ (cnt = true → L d ≠ 0) := by
  unfold tU
  cases cnt <;> simp
set_option maxHeartbeats 2000000 in
theorem S_twoG {n : Nat} {A B : Nat → Nat} {T : Nat → Bool} {W L : Nat → Nat} {x1 : Int32} {who goal cW s D0 : Nat} {cnt : Bool} {G : List Nat → tB} {E : m2M → Prop}
    (hx : (x1 = 0 ∧ cW = kM_secondWay) ∨ (x1 = 1 ∧ cW = kM_firstWay ∧ s = 0)) (hs : s ≤ 5) (hL : ∀ d, d < n → L d < 61)
    (hE57 : ∀ M, E M → x1 = 0 → M.1 kM 57 = nI s) (hEs : ∀ M j x, E M → E (m2_si M cW j x)) (hEl : ∀ M j x, E M → E (m2_si M kM_left j x))
    (hG : ∀ Q q, G Q = some q → Q.length + s ≤ q.1)
    (leaf : ∀ {κ : Nat → List Value → List Value → m2M → Prop} {D : Nat} {QQ : Option Value → m2M → Prop} {Q : List Nat} {S : Nat → Bool} {b : tB} (μ : m2M), D0 ≤ D → Q.length ≤ 5 → tI μ n A B T W x1 who goal cnt → tL μ n L cnt Q → E μ → stT b μ → (∀ i d, Q[i]? = some d → μ.1 cW i = nI d) → (∀ d, d ∈ Q → d < n ∧ tU W L cnt d = true) → (∀ q0, b = some q0 → s + Q.length < q0.1) → m2_RL κ cX12_twoFrom RX12 9 (D + 1) none QQ → (∀ μ', frW2 μ μ' → E μ' → (∀ i, i < Q.length → μ'.1 cW i = μ.1 cW i) → stT (mrg b (G Q)) μ' → QQ none μ') → κ 34 [.ref kM, .int x1, .int (nI Q.length), .int (nI goal), .int (bts S 12), .int (nI (s + Q.length)), .null, .null, .null] [] μ) :
    ∀ (k : Nat) {D u : Nat} {S : Nat → Bool} {Q : List Nat} {b : tB} (μ : m2M), k + D0 + 1 ≤ D → Q.length + k = 5 → u < 12 → tI μ n A B T W x1 who goal cnt → tL μ n L cnt Q → E μ → stT b μ → (∀ i d, Q[i]? = some d → μ.1 cW i = nI d) → (∀ d, d ∈ Q → d < n ∧ tU W L cnt d = true) → (∀ d, d ∈ Q → S (A d) = true ∧ S (B d) = true) → S u = true → m2_MT D yX12_twoFrom cX12_twoFrom 9 none [.ref kM, .int x1, .int (nI Q.length), .int (nI u), .int (bts S 12)] μ (fun _ μ' => frW2 μ μ' ∧ E μ' ∧ (∀ i, i < Q.length → μ'.1 cW i = μ.1 cW i) ∧ stT (mrg b (dff A B T (tU W L cnt) n goal G k u S Q)) μ') := by
  have hcW : cW = kM_secondWay ∨ cW = kM_firstWay := by rcases hx with ⟨_, e⟩ | ⟨_, e, _⟩; exact Or.inl e; exact Or.inr e
  have hcT : isW2 cW = true := by rcases hcW with e | e <;> rw [e] <;> rfl
  have hck : cW ≠ kM := by rcases hcW with e | e <;> rw [e] <;> decide
  have hcb : kM_bestTwo ≠ cW := by rcases hcW with e | e <;> rw [e] <;> decide
  have hcl : kM_left ≠ cW := by rcases hcW with e | e <;> rw [e] <;> decide
  intro k
  induction k with
  | zero =>
    intro D u S Q b μ hD hQk hu hI hLf hE hb hway hQ hQS hSu
    obtain ⟨D, rfl⟩ : ∃ F, D = F + 1 := ⟨D - 1, by omega⟩
    refine m2_MT.intro (ls := [.ref kM, .int x1, .int (nI Q.length), .int (nI u), .int (bts S 12), .null, .null, .null, .null]) (by decide +kernel) rfl (ble rfl) (fun κ hκ => ?_)
    have g34 : (∀ q0, b = some q0 → s + Q.length < q0.1) → κ 34 [.ref kM, .int x1, .int (nI Q.length), .int (nI u), .int (bts S 12), .int (nI (s + Q.length)), .null, .null, .null] [] μ := by
      intro hlt
      by_cases e : u = goal
      · subst e
        exact leaf μ (by omega) (by omega) hI hLf hE hb hway hQ hlt hκ (fun μ' a1 a2 a3 a4 => ⟨a1, a2, a3, by rw [dff_goal]; exact a4⟩)
      · have eN : dff A B T (tU W L cnt) n goal G 0 u S Q = none := if_neg e
        have h5 : nI Q.length = 5 := by rw [show Q.length = 5 by omega]; rfl
        have gl := hI.2.2.2.2.1
        have hg : goal < 12 := hI.2.2.2.2.2.1
        have ne : ¬ nI u = nI goal := fun w => e ((nI_eq (by omega) (by omega)).mp w)
        have fin : frW2 μ μ ∧ E μ ∧ (∀ i, i < Q.length → μ.1 cW i = μ.1 cW i) ∧ stT (mrg b (dff A B T (tU W L cnt) n goal G 0 u S Q)) μ := ⟨frW2.rf, hE, fun _ _ => rfl, by rw [eN]; exact hb⟩
        rcases hx with ⟨ex, _⟩ | ⟨ex, _, _⟩
        · subst ex
          rw [if_pos rfl] at gl
          exact B_X12_twoFrom_34 hκ ⟨fun _ => ⟨fun _ => ⟨fun w => absurd h5 w, fun _ => fin⟩, fun w => absurd (w.trans gl) ne⟩, fun w => absurd rfl w⟩
        · subst ex
          rw [if_neg (by decide)] at gl
          exact B_X12_twoFrom_34 hκ ⟨fun w => absurd w (by decide), fun _ => ⟨fun _ => ⟨fun w => absurd h5 w, fun _ => fin⟩, fun w => absurd (w.trans gl) ne⟩⟩
    have prn : ∀ q0, b = some q0 → q0.1 ≤ s + Q.length → frW2 μ μ ∧ E μ ∧ (∀ i, i < Q.length → μ.1 cW i = μ.1 cW i) ∧ stT (mrg b (dff A B T (tU W L cnt) n goal G 0 u S Q)) μ := by
      intro q0 e0 hle
      refine ⟨frW2.rf, hE, fun _ _ => rfl, ?_⟩
      rw [mrg_c b _ (s + Q.length) ⟨q0, e0, hle⟩ (fun q hq => by have := (dff_ge (f := fun _ => 0) (m := s) rfl (fun _ _ _ _ _ _ => Nat.zero_le _) hG hq).1; omega)]
      exact hb
    cases b with
    | none =>
      have hb : μ.1 kM 58 = -1 := hb
      refine B_X12_twoFrom_0 hκ ⟨fun _ => ?_, fun w => absurd hb w⟩
      rcases hx with ⟨ex, _⟩ | ⟨ex, _, es⟩
      · have := g34 (fun q0 w => by cases w)
        rw [if_pos ex, hE57 μ hE ex, nI_add]
        exact this
      · have := g34 (fun q0 w => by cases w)
        rw [if_neg (by rw [ex]; decide)]
        rw [es, Nat.zero_add] at this
        exact this
    | some q0 =>
      obtain ⟨l1, l2⟩ := hb.le
      refine B_X12_twoFrom_0 hκ ⟨fun w => absurd (l2.symm.trans w) (nI_ne_m1 (by omega)), fun _ => ?_⟩
      rcases hx with ⟨ex, _⟩ | ⟨ex, _, es⟩
      · refine ⟨fun _ => ?_, fun w => absurd ex w⟩
        rw [hE57 μ hE ex, nI_add, l2]
        exact pk_lt (s + Q.length) q0.1 (fun z => g34 (fun q1 w => by cases w; exact z)) (fun z => prn q0 rfl z) rfl rfl (by omega) (by omega)
      · refine ⟨fun w => absurd (ex.symm.trans w) (by decide), fun _ => ?_⟩
        rw [l2]
        refine pk_lt Q.length q0.1 (fun z => ?_) (fun z => prn q0 rfl (by omega)) rfl rfl (by omega) (by omega)
        have := g34 (fun q1 w => by cases w; omega)
        rw [es, Nat.zero_add] at this
        exact this
  | succ k ih =>
    intro D u S Q b μ hD hQk hu hI hLf hE hb hway hQ hQS hSu
    obtain ⟨D, rfl⟩ : ∃ F, D = F + 1 := ⟨D - 1, by omega⟩
    refine m2_MT.intro (ls := [.ref kM, .int x1, .int (nI Q.length), .int (nI u), .int (bts S 12), .null, .null, .null, .null]) (by decide +kernel) rfl (ble rfl) (fun κ hκ => ?_)
    have hn20 : n ≤ 20 := hI.1.2.1
    have hwho : who < 8 := hI.2.2.1
    have main : u ≠ goal → ∀ (f d : Nat) (M : m2M), d + f = n → frW2 μ M → E M → (∀ i, i < Q.length → M.1 cW i = μ.1 cW i) → stT (mrg b (tvL (dfc A B T (tU W L cnt) (fun d v => dff A B T (tU W L cnt) n goal G k v (adB S v) (Q ++ [d])) u S) d)) M → κ 214 [.ref kM, .int x1, .int (nI Q.length), .int (nI u), .int (bts S 12), .int (nI (s + Q.length)), .int (nI who), .int (nI d), .null] [] M := by
      intro hne f
      induction f with
      | zero =>
        intro d M hd hM hEM hw hbM
        have e : d = n := by omega
        subst e
        have e0 : M.1 kM 0 = nI d := (hM.2.2 0 (by decide) (by decide)).trans hI.1.1
        refine B_X12_twoFrom_214 hκ (Nat.zero_le _) ⟨fun _ => ⟨hM, hEM, hw, ?_⟩, fun w => absurd (by rw [e0]; exact nI_le (Nat.le_refl _) (by omega)) w⟩
        show stT (mrg b (if u = goal then _ else _)) M
        rw [if_neg hne]
        exact hbM
      | succ f ihf =>
        intro d M hd hM hEM hw hbM
        have hdn : d < n := by omega
        have hIM : tI M n A B T W x1 who goal cnt := hI.of (fun c h _ => hM.1 c h) hM.2.2
        have e0 : M.1 kM 0 = nI n := hIM.1.1
        have hlM : M.1 kM_left = μ.1 kM_left := hM.1 kM_left rfl
        have skip : ∀ v8 : Int32, dfc A B T (tU W L cnt) (fun d v => dff A B T (tU W L cnt) n goal G k v (adB S v) (Q ++ [d])) u S d = none → κ 363 [.ref kM, .int x1, .int (nI Q.length), .int (nI u), .int (bts S 12), .int (nI (s + Q.length)), .int (nI who), .int (nI d), .int v8] [] M := by
          intro v8 ec
          refine B_X12_twoFrom_363 hκ ?_
          rw [nI_1]
          refine ihf (d + 1) M (by omega) hM hEM hw ?_
          show stT (mrg b (mrg _ (dfc A B T (tU W L cnt) _ u S d))) M
          rw [ec]
          exact hbM
        refine B_X12_twoFrom_214 hκ (Nat.zero_le _) ⟨fun w => absurd (by rw [e0] at w; exact w) (nI_ge hdn (by omega)), fun _ => ⟨vp_in_nI (by omega) (by decide), ?_⟩⟩
        rw [mg_bey hIM.1 hdn hu]
        rcases eb : bey A B T d u with _ | v
        · exact ⟨fun _ => skip _ (dfc_no (fun _ v w => by rw [eb] at w; cases w)), fun w => absurd rfl w⟩
        · have hv12 : v < 12 := bey_lt hI.1 hdn eb
          have hWd := hIM.2.1 d hdn
          refine ⟨fun w => absurd w (nI_ne_m1 (by omega)), fun _ => ?_⟩
          rw [nI_clamp (by omega), hWd.1, nI_clamp (by omega), hIM.2.2.2.2.2.2, hlM, hLf d hdn]
          -- d is new where the ROOM behind it is new
          have hnew : S v = false → d ∉ Q := by
            intro hS w
            obtain ⟨s1, s2⟩ := hQS d w
            rcases bey_iff eb with ⟨_, z⟩ | ⟨_, _, z⟩
            · rw [z, hS] at s2; cases s2
            · rw [z, hS] at s1; cases s1
          have g268 : tU W L cnt d = true ∨ S v = true → κ 268 [.ref kM, .int x1, .int (nI Q.length), .int (nI u), .int (bts S 12), .int (nI (s + Q.length)), .int (nI who), .int (nI d), .int (nI v)] [] M := by
            intro hor
            refine B_X12_twoFrom_268 hκ (Nat.zero_le _) ⟨fun w => ?_, fun w => ?_⟩
            · have hSv := (has12 hv12).mp w
              exact skip _ (dfc_no (fun _ v' z => by rw [eb] at z; cases z; exact hSv))
            · have hSv : S v = false := by
                cases z : S v with
                | false => rfl
                | true => exact absurd ((has12 hv12).mpr z) w
              have hU : tU W L cnt d = true := by
                rcases hor with z | z
                · exact z
                · rw [hSv] at z; cases z
              have hdQ := hnew hSv
              have g304 : κ 304 [.ref kM, .int x1, .int (nI Q.length), .int (nI u), .int (bts S 12), .int (nI (s + Q.length)), .int (nI who), .int (nI d), .int (nI v)] [] (m2_si M cW Q.length (nI d)) := by
                have hst : (m2_si M cW Q.length (nI d)).1 kM_isStranger who = if cnt = true then 0 else 1 := by
                  rw [si_nc _ _ _ (by rcases hcW with e | e <;> rw [e] <;> decide)]
                  exact hIM.2.2.2.2.2.2
                -- the call, from either memory
                have call : ∀ M1 : m2M, frW2 M (m2_si M1 kM_left d (M.1 kM_left d)) → E M1 → tL M1 n L cnt (Q ++ [d]) → M1.1 cW = (m2_si M cW Q.length (nI d)).1 cW → M1.1 kM 58 = M.1 kM 58 → M1.1 kM_bestTwo = M.1 kM_bestTwo → (∀ M2, frW2 M1 M2 → ∃ M3 : m2M, frW2 M M3 ∧ (E M2 → E M3) ∧ M3.1 cW = M2.1 cW ∧ M3.1 kM 58 = M2.1 kM 58 ∧ M3.1 kM_bestTwo = M2.1 kM_bestTwo ∧ (κ 363 [.ref kM, .int x1, .int (nI Q.length), .int (nI u), .int (bts S 12), .int (nI (s + Q.length)), .int (nI who), .int (nI d), .int (nI v)] [] M3 → ((vp_in (nI who) 8) ∧ ((¬ (M2.1 kM_isStranger ((nI who)).toNatClampNeg) = 0 → κ 363 [.ref kM, .int x1, .int (nI Q.length), .int (nI u), .int (bts S 12), .int (nI (s + Q.length)), .int (nI who), .int (nI d), .int (nI v)] [] M2) ∧ ((M2.1 kM_isStranger ((nI who)).toNatClampNeg) = 0 → (vp_in (nI d) 20) ∧ (κ 363 [.ref kM, .int x1, .int (nI Q.length), .int (nI u), .int (bts S 12), .int (nI (s + Q.length)), .int (nI who), .int (nI d), .int (nI v)] [] (m2_si M2 kM_left ((nI d)).toNatClampNeg ((M2.1 kM_left ((nI d)).toNatClampNeg) + 1))))))))  → κ 325 [.ref kM, .int x1, .int (nI Q.length), .int (nI u), .int (bts S 12), .int (nI (s + Q.length)), .int (nI who), .int (nI d), .int (nI v)] [] M1 := by
                  intro M1 hM1 hE1 hL1 hc1 h58 hbt hback
                  have hI1 : tI M1 n A B T W x1 who goal cnt := hIM.of (fun c h hl => by rw [← hM1.1 c h, si_nc _ _ _ hl]) (fun j a c => by rw [← hM1.2.2 j a c, si_nc _ _ _ (by decide)])
                  have hb1 : stT (mrg b (tvL (dfc A B T (tU W L cnt) (fun d v => dff A B T (tU W L cnt) n goal G k v (adB S v) (Q ++ [d])) u S) d)) M1 := hbM.of h58 hbt
                  have c1 := ih (D := D) (u := v) (S := adB S v) (Q := Q ++ [d]) (b := mrg b (tvL (dfc A B T (tU W L cnt) (fun d v => dff A B T (tU W L cnt) n goal G k v (adB S v) (Q ++ [d])) u S) d)) M1 (by omega) (by simp; omega) hv12 hI1 hL1 hE1 hb1 (fun i e hi => by
                    rw [hc1]
                    by_cases z : i < Q.length
                    · rw [List.getElem?_append_left z] at hi
                      rw [si_nj _ _ _ (by omega), hw i z]
                      exact hway i e hi
                    · have hil : i < Q.length + 1 := by
                        have := (List.getElem?_eq_some_iff.mp hi).1
                        simpa using this
                      have e2 : i = Q.length := by omega
                      subst e2
                      have : d = e := by simpa using hi
                      rw [← this, si_at]) (fun e he => by
                    rcases List.mem_append.mp he with z | z
                    · exact hQ e z
                    · have : e = d := by simpa using z
                      rw [this]; exact ⟨hdn, hU⟩) (fun e he => by
                    unfold adB
                    rcases List.mem_append.mp he with z | z
                    · obtain ⟨z1, z2⟩ := hQS e z
                      rw [z1, z2]; exact ⟨rfl, rfl⟩
                    · have : e = d := by simpa using z
                      rw [this]
                      rcases bey_iff eb with ⟨y1, y2⟩ | ⟨_, y1, y2⟩
                      · rw [y1, y2, hSu]; simp
                      · rw [y1, y2, hSu]; simp) (by unfold adB; simp)
                  rw [show (Q ++ [d]).length = Q.length + 1 by simp, ← nI_1] at c1
                  have ebt : bts S 12 ||| ((1 : Int32) <<< (nI v &&& 31)) = bts (adB S v) 12 := bts_or (by decide) hv12
                  rw [← ebt] at c1
                  refine B_X12_twoFrom_325 hκ ⟨_, c1, fun M2 h2 => ?_⟩
                  obtain ⟨k1, k2, k3, k4⟩ := h2
                  obtain ⟨M3, n1, n2, n3, n4, n5, n6⟩ := hback M2 k1
                  refine n6 ?_
                  refine B_X12_twoFrom_363 hκ ?_
                  rw [nI_1]
                  refine ihf (d + 1) M3 (by omega) (hM.tr n1) (n2 k2) (fun i hi => ?_) ?_
                  · rw [n3, k3 i (by omega), hc1, si_nj _ _ _ (by omega)]
                    exact hw i hi
                  · have k5 := k4.of n4 n5
                    rw [mrg_assoc] at k5
                    show stT (mrg b (mrg _ (dfc A B T (tU W L cnt) _ u S d))) M3
                    rw [dfc_of hU eb hSv]
                    exact k5
                refine B_X12_twoFrom_304 hκ ⟨vp_in_nI hwho (by decide), ?_⟩
                rw [nI_clamp (by omega), hst]
                cases hc : cnt with
                | false =>
                  refine ⟨fun _ => ?_, fun w => absurd w (by decide)⟩
                  refine call _ ?_ (hEs _ _ _ hEM) (fun e he => ?_) rfl (by rw [si_nc _ _ _ (Ne.symm hck)]) (si_nc _ _ _ hcb) (fun M2 hM2 => ⟨M2, ?_, fun z => z, rfl, rfl, rfl, fun hk => ⟨vp_in_nI hwho (by decide), ?_⟩⟩)
                  · refine ⟨fun c h => ?_, fun _ => rfl, fun j _ _ => ?_⟩
                    · by_cases z : c = kM_left
                      · subst z
                        unfold m2_si
                        rw [m2_sr_same, m2_sr_ne _ _ hcl]
                        funext j
                        unfold upd
                        by_cases y : j = d
                        · rw [if_pos y, y]
                        · rw [if_neg y]
                      · rw [si_nc _ _ _ z, si_nc _ _ _ (fun w => by rw [w, hcT] at h; cases h)]
                    · rw [si_nc _ _ _ (by decide), si_nc _ _ _ (Ne.symm hck)]
                  · rw [si_nc _ _ _ hcl, hlM, hLf e he, hc]
                    simp
                  · exact (frW2.rf.si hcT (fun w => absurd w hck)).tr hM2
                  · have e3 : M2.1 kM_isStranger who = 1 := by
                      rw [hM2.1 kM_isStranger rfl, hst, hc]; rfl
                    rw [nI_clamp (by omega), e3]
                    exact ⟨fun _ => hk, fun w => absurd w (by decide)⟩
                | true =>
                  refine ⟨fun w => absurd rfl w, fun _ => ⟨vp_in_nI (by omega) (by decide), ?_⟩⟩
                  rw [nI_clamp (by omega)]
                  refine call _ ?_ (hEl _ _ _ (hEs _ _ _ hEM)) (fun e he => ?_) (si_nc _ _ _ (Ne.symm hcl)) (by rw [si_nc _ _ _ (by decide), si_nc _ _ _ (Ne.symm hck)]) (by rw [si_nc _ _ _ (by decide), si_nc _ _ _ hcb]) (fun M2 hM2 => ⟨m2_si M2 kM_left d (M2.1 kM_left d + 1), frW2_left hcW hM2, fun z => hEl _ _ _ z, si_nc _ _ _ (Ne.symm hcl), by rw [si_nc _ _ _ (by decide)], si_nc _ _ _ (by decide), fun hk => ⟨vp_in_nI hwho (by decide), ?_⟩⟩)
                  · refine ⟨fun c h => ?_, fun _ => rfl, fun j _ _ => ?_⟩
                    · by_cases z : c = kM_left
                      · subst z
                        unfold m2_si
                        rw [m2_sr_same, m2_sr_same, m2_sr_ne _ _ hcl]
                        funext j
                        unfold upd
                        by_cases y : j = d
                        · rw [if_pos y, y]
                        · rw [if_neg y, if_neg y]
                      · rw [si_nc _ _ _ z, si_nc _ _ _ z, si_nc _ _ _ (fun w => by rw [w, hcT] at h; cases h)]
                    · rw [si_nc _ _ _ (by decide), si_nc _ _ _ (by decide), si_nc _ _ _ (Ne.symm hck)]
                  · by_cases z : e = d
                    · subst z
                      rw [si_at, si_nc _ _ _ hcl, hlM, hLf e he, if_neg (fun w => hdQ w.2), if_pos ⟨hc, by simp⟩]
                    · rw [si_nj _ _ _ z, si_nc _ _ _ hcl, hlM, hLf e he, hc]
                      by_cases y : e ∈ Q
                      · rw [if_pos ⟨rfl, y⟩, if_pos ⟨rfl, by simp [y]⟩]
                      · rw [if_neg (fun w => y w.2), if_neg (fun w => by simp [y, z] at w)]
                  · have e3 : M2.1 kM_isStranger who = 0 := by
                      rw [hM2.1 kM_isStranger rfl, si_nc _ _ _ (by decide), hst, hc]; rfl
                    rw [nI_clamp (by omega), nI_clamp (by omega), e3]
                    exact ⟨fun w => absurd rfl w, fun _ => ⟨vp_in_nI (by omega) (by decide), hk⟩⟩
              rcases hx with ⟨ex, ec⟩ | ⟨ex, ec, _⟩
              · refine ⟨fun _ => ⟨vp_in_nI (by omega) (by decide), ?_⟩, fun w => absurd ex w⟩
                rw [nI_clamp (by omega), ← ec]
                exact g304
              · refine ⟨fun w => absurd (ex.symm.trans w) (by decide), fun _ => ⟨vp_in_nI (by omega) (by decide), ?_⟩⟩
                rw [nI_clamp (by omega), ← ec]
                exact g304
          refine ⟨fun w => skip _ (dfc_no (fun z => ?_)), fun w => ⟨vp_in_nI hwho (by decide), ?_⟩⟩
          · have h0 : W d = 0 := by
              apply Classical.byContradiction
              intro y
              exact absurd w (nI_ne0 (by omega) (by omega))
            exact absurd h0 (tU_iff.mp z).1
          · have hW0 : W d ≠ 0 := fun y => w (by rw [y]; rfl)
            cases hc : cnt with
            | false =>
              refine ⟨fun _ => ?_, fun w => absurd w (by decide)⟩
              rw [hc] at g268
              exact g268 (Or.inl (tU_iff.mpr ⟨hW0, fun z => by cases z⟩))
            | true =>
              refine ⟨fun w => absurd rfl w, fun _ => ?_⟩
              rw [hc] at g268
              by_cases hdQ : d ∈ Q
              · have hSv : S v = true := by
                  cases z : S v with
                  | true => rfl
                  | false => exact absurd hdQ (hnew z)
                refine ⟨fun _ => skip _ (dfc_no (fun _ v' z => by rw [eb] at z; cases z; exact hSv)), fun _ => g268 (Or.inr hSv)⟩
              · rw [if_neg (fun w => hdQ w.2)]
                refine ⟨fun w => skip _ (dfc_no (fun z => ?_)), fun w => g268 (Or.inl (tU_iff.mpr ⟨hW0, fun _ y => w (by rw [y]; rfl)⟩))⟩
                have h0 : L d = 0 := by
                  apply Classical.byContradiction
                  intro y
                  have := hL d hdn
                  exact absurd w (nI_ne0 (by omega) (by omega))
                exact absurd h0 ((tU_iff.mp z).2 hc)
    have g34 : (∀ q0, b = some q0 → s + Q.length < q0.1) → κ 34 [.ref kM, .int x1, .int (nI Q.length), .int (nI u), .int (bts S 12), .int (nI (s + Q.length)), .null, .null, .null] [] μ := by
      intro hlt
      by_cases e : u = goal
      · subst e
        exact leaf μ (by omega) (by omega) hI hLf hE hb hway hQ hlt hκ (fun μ' a1 a2 a3 a4 => ⟨a1, a2, a3, by rw [dff_goal]; exact a4⟩)
      · have h5 : ¬ nI Q.length = 5 := fun w => by
          have := (nI_eq (a := Q.length) (b := 5) (by omega) (by decide)).mp w
          omega
        have gl := hI.2.2.2.2.1
        have hg : goal < 12 := hI.2.2.2.2.2.1
        have ne : ¬ nI u = nI goal := fun w => e ((nI_eq (by omega) (by omega)).mp w)
        have st := main e n 0 μ (by omega) frW2.rf hE (fun _ _ => rfl) hb
        have hwh := hI.2.2.2.1
        rcases hx with ⟨ex, _⟩ | ⟨ex, _, _⟩
        · subst ex
          rw [if_pos rfl] at gl
          refine B_X12_twoFrom_34 hκ ⟨fun _ => ⟨fun _ => ⟨fun _ => ?_, fun w => absurd w h5⟩, fun w => absurd (w.trans gl) ne⟩, fun w => absurd rfl w⟩
          rw [hwh]
          exact st
        · subst ex
          rw [if_neg (by decide)] at gl
          refine B_X12_twoFrom_34 hκ ⟨fun w => absurd w (by decide), fun _ => ⟨fun _ => ⟨fun _ => ?_, fun w => absurd w h5⟩, fun w => absurd (w.trans gl) ne⟩⟩
          rw [hwh]
          exact st
    have prn : ∀ q0, b = some q0 → q0.1 ≤ s + Q.length → frW2 μ μ ∧ E μ ∧ (∀ i, i < Q.length → μ.1 cW i = μ.1 cW i) ∧ stT (mrg b (dff A B T (tU W L cnt) n goal G (k + 1) u S Q)) μ := by
      intro q0 e0 hle
      refine ⟨frW2.rf, hE, fun _ _ => rfl, ?_⟩
      rw [mrg_c b _ (s + Q.length) ⟨q0, e0, hle⟩ (fun q hq => by have := (dff_ge (f := fun _ => 0) (m := s) rfl (fun _ _ _ _ _ _ => Nat.zero_le _) hG hq).1; omega)]
      exact hb
    cases b with
    | none =>
      have hb : μ.1 kM 58 = -1 := hb
      refine B_X12_twoFrom_0 hκ ⟨fun _ => ?_, fun w => absurd hb w⟩
      rcases hx with ⟨ex, _⟩ | ⟨ex, _, es⟩
      · have := g34 (fun q0 w => by cases w)
        rw [if_pos ex, hE57 μ hE ex, nI_add]
        exact this
      · have := g34 (fun q0 w => by cases w)
        rw [if_neg (by rw [ex]; decide)]
        rw [es, Nat.zero_add] at this
        exact this
    | some q0 =>
      obtain ⟨l1, l2⟩ := hb.le
      refine B_X12_twoFrom_0 hκ ⟨fun w => absurd (l2.symm.trans w) (nI_ne_m1 (by omega)), fun _ => ?_⟩
      rcases hx with ⟨ex, _⟩ | ⟨ex, _, es⟩
      · refine ⟨fun _ => ?_, fun w => absurd ex w⟩
        rw [hE57 μ hE ex, nI_add, l2]
        exact pk_lt (s + Q.length) q0.1 (fun z => g34 (fun q1 w => by cases w; exact z)) (fun z => prn q0 rfl z) rfl rfl (by omega) (by omega)
      · refine ⟨fun w => absurd (ex.symm.trans w) (by decide), fun _ => ?_⟩
        rw [l2]
        refine pk_lt Q.length q0.1 (fun z => ?_) (fun z => prn q0 rfl (by omega)) rfl rfl (by omega) (by omega)
        have := g34 (fun q1 w => by cases w; omega)
        rw [es, Nat.zero_add] at this
        exact this
