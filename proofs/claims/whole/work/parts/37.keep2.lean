/-! the class's Kept -/
def kpt (μ : m2M) (i n p : Nat) (L W R O : Nat → Int32) (hr : Int32) : Prop := μ.1 (kK i) 4 = nI n ∧ μ.1 (kK i) 5 = nI p ∧ μ.1 (kK i) 6 = hr ∧ (∀ d, d < n → μ.1 (kK i + 1) d = L d) ∧ ∀ q, q < p → μ.1 (kK i + 2) q = W q ∧ μ.1 (kK i + 3) q = R q ∧ μ.1 (kK i + 4) q = O q
def kkS (i : Nat) : Nat → Bool := fun c => Nat.ble (kK i) c && Nat.ble c (kK i + 4)
theorem kkS_in {i k : Nat} (h : k < 5) : kkS i (kK i + k) = true := by
  unfold kkS
  rw [Bool.and_eq_true, Nat.ble_eq, Nat.ble_eq]
  omega
theorem kkS_out {i c : Nat} (h : c < 107) : kkS i c = false := by
  unfold kkS
  have : Nat.ble (kK i) c = false := by
    cases e : Nat.ble (kK i) c with
    | false => rfl
    | true =>
      have := Nat.le_of_ble_eq_true e
      have h2 : kK i = 107 + 5 * i := rfl
      omega
  rw [this]
  rfl
theorem kk_lt {i c : Nat} (h : c < 107) (k : Nat) : c ≠ kK i + k := by
  have h2 : kK i = 107 + 5 * i := rfl
  omega
theorem si_at (μ : m2M) (c j : Nat) (x : Int32) : (m2_si μ c j x).1 c j = x := by
  unfold m2_si
  rw [m2_sr_same]
  exact if_pos rfl
theorem si_nj (μ : m2M) (c : Nat) {j k : Nat} (x : Int32) (h : k ≠ j) : (m2_si μ c j x).1 c k = μ.1 c k := by
  unfold m2_si
  rw [m2_sr_same]
  exact if_neg h
theorem si_nc (μ : m2M) {c c' : Nat} (j : Nat) (x : Int32) (h : c' ≠ c) : (m2_si μ c j x).1 c' = μ.1 c' := m2_sr_ne _ _ h
theorem S_take {D i n p : Nat} (hD : 1 ≤ D) (hi : i < 10) (hn : n ≤ 20) (hp : p ≤ 8) (μ : m2M) (h1 : μ.1 kD 6 = nI n) (h2 : μ.1 kP 8 = nI p) (h3 : ∀ q, q < p → b01 (μ.1 kP_reached q) ∧ b01 (μ.1 kP_done q)) : m2_MT D yX3_take cX3_take 4 none [.ref (kK i), .ref kD, .ref kP] μ (fun _ μ' => kpt μ' i n p (μ.1 kD_left) (μ.1 kP_where) (μ.1 kP_reached) (μ.1 kP_done) (μ.1 kD 7) ∧ μ'.1 (kK i) 7 = 1 ∧ fr (kkS i) μ μ') := by
  obtain ⟨D, rfl⟩ : ∃ E, D = E + 1 := ⟨D - 1, by omega⟩
  refine m2_MT.intro (ls := [.ref (kK i), .ref kD, .ref kP, .null]) (by decide +kernel) rfl (ble rfl) (fun κ hk => ?_)
  have nD : ∀ c, c < 107 → ∀ k, c ≠ kK i + k := fun c h k => kk_lt h k
  refine B_X3_take_0 hk hi ?_
  have e0 : (m2_si μ (kK i) 4 (μ.1 kD 6)).1 kP 8 = μ.1 kP 8 := by rw [si_nc _ _ _ (show kP ≠ kK i from nD kP (by decide) 0)]
  rw [e0]
  have e1 : (m2_si (m2_si μ (kK i) 4 (μ.1 kD 6)) (kK i) 5 (μ.1 kP 8)).1 kD 7 = μ.1 kD 7 := by rw [si_nc _ _ _ (show kD ≠ kK i from nD kD (by decide) 0), si_nc _ _ _ (show kD ≠ kK i from nD kD (by decide) 0)]
  rw [e1]
  generalize hμ : m2_si (m2_si (m2_si μ (kK i) 4 (μ.1 kD 6)) (kK i) 5 (μ.1 kP 8)) (kK i) 6 (μ.1 kD 7) = μ1
  have a4 : μ1.1 (kK i) 4 = nI n := by rw [← hμ, si_nj _ _ _ (by decide), si_nj _ _ _ (by decide), si_at, h1]
  have a5 : μ1.1 (kK i) 5 = nI p := by rw [← hμ, si_nj _ _ _ (by decide), si_at, h2]
  have a6 : μ1.1 (kK i) 6 = μ.1 kD 7 := by rw [← hμ, si_at]
  have aF : fr (kkS i) μ μ1 := by
    rw [← hμ]
    exact fr_si (kkS_in (k := 0) (by decide)) (fr_si (kkS_in (k := 0) (by decide)) (fr_si (kkS_in (k := 0) (by decide)) fr.rf))
  have aN : ∀ c, c < 107 → μ1.1 c = μ.1 c := fun c h => (aF c (kkS_out h)).1
  have c0 : (0 : Int32).toNatClampNeg = 0 := by decide
  rw [a4, nI_clamp (by omega), c0, aN kD_left (by decide)]
  refine ⟨nI_pos (by omega), by omega, ?_⟩
  have key := dn (n := p) (G := fun q => ∀ μ2 : m2M, fr (kkS i) μ μ2 → μ2.1 (kK i) 4 = nI n → μ2.1 (kK i) 5 = nI p → μ2.1 (kK i) 6 = μ.1 kD 7 → (∀ d, d < n → μ2.1 (kK i + 1) d = μ.1 kD_left d) → (∀ q', q' < q → μ2.1 (kK i + 2) q' = μ.1 kP_where q' ∧ μ2.1 (kK i + 3) q' = μ.1 kP_reached q' ∧ μ2.1 (kK i + 4) q' = μ.1 kP_done q') → κ 43 [.ref (kK i), .ref kD, .ref kP, .int (nI q)] [] μ2) ?_ (fun q hq ih => ?_)
  · refine key _ (fr_sr (kkS_in (by decide)) aF) ?_ ?_ ?_ ?_ (fun q' h' => absurd h' (Nat.not_lt_zero _))
    · rw [m2_sr_ne _ _ (by omega)]; exact a4
    · rw [m2_sr_ne _ _ (by omega)]; exact a5
    · rw [m2_sr_ne _ _ (by omega)]; exact a6
    · intro d hd
      rw [m2_sr_same, pk_cpy_in (by omega) (by omega)]
      rw [show 0 + (d - 0) = d by omega]
  · intro μ2 f2 b4 b5 b6 bl bq
    refine B_X3_take_43 hk hi ⟨fun _ => ⟨⟨?_, ?_, ?_, ?_, ?_⟩, si_at _ _ _ _, fr_si (kkS_in (k := 0) (by decide)) f2⟩, fun z => absurd (by rw [b5]; exact nI_le (Nat.le_refl p) (by omega)) z⟩
    · rw [si_nj _ _ _ (by decide)]; exact b4
    · rw [si_nj _ _ _ (by decide)]; exact b5
    · rw [si_nj _ _ _ (by decide)]; exact b6
    · intro d hd
      rw [si_nc _ _ _ (by omega)]; exact bl d hd
    · intro q' hq'
      rw [si_nc _ _ _ (by omega), si_nc _ _ _ (by omega), si_nc _ _ _ (by omega)]
      exact bq q' hq'
  · intro μ2 f2 b4 b5 b6 bl bq
    refine B_X3_take_43 hk hi ⟨fun z => absurd (by rw [b5] at z; exact z) (nI_ge hq (by omega)), fun _ => ⟨vp_in_nI (by omega) (by decide), ?_⟩⟩
    have g : ∀ c, c < 107 → μ2.1 c = μ.1 c := fun c h => (f2 c (kkS_out h)).1
    rw [nI_clamp (by omega), nI_1]
    rw [si_nc _ _ _ (nD kP_reached (by decide) 2)]
    rw [si_nc _ _ _ (nD kP_done (by decide) 3), si_nc _ _ _ (nD kP_done (by decide) 2)]
    rw [g kP_where (by decide), g kP_reached (by decide), g kP_done (by decide), nar_b (h3 q hq).1, nar_b (h3 q hq).2]
    refine ih _ (fr_si (kkS_in (by decide)) (fr_si (kkS_in (by decide)) (fr_si (kkS_in (by decide)) f2))) ?_ ?_ ?_ ?_ ?_
    · rw [si_nc _ _ _ (by omega), si_nc _ _ _ (by omega), si_nc _ _ _ (by omega)]; exact b4
    · rw [si_nc _ _ _ (by omega), si_nc _ _ _ (by omega), si_nc _ _ _ (by omega)]; exact b5
    · rw [si_nc _ _ _ (by omega), si_nc _ _ _ (by omega), si_nc _ _ _ (by omega)]; exact b6
    · intro d hd
      rw [si_nc _ _ _ (by omega), si_nc _ _ _ (by omega), si_nc _ _ _ (by omega)]; exact bl d hd
    · intro q' hq'
      rw [si_nc (c' := kK i + 2) _ _ _ (by omega), si_nc (c' := kK i + 2) _ _ _ (by omega), si_nc (c' := kK i + 3) _ _ _ (by omega)]
      by_cases w : q' = q
      · subst w
        rw [si_at, si_at, si_at]
        exact ⟨rfl, rfl, rfl⟩
      · rw [si_nj _ _ _ w, si_nj _ _ _ w, si_nj _ _ _ w, si_nc _ _ _ (by omega), si_nc _ _ _ (by omega), si_nc _ _ _ (by omega)]
        exact bq q' (by omega)
def gbC (μ : m2M) (n p : Nat) (L W R O : Nat → Int32) (hr : Int32) : m2M := m2_sr (m2_sr (m2_sr (m2_sr (m2_si μ kD 7 hr) kD_left (lft (μ.1 kD_left) L n)) kP_where (lft (μ.1 kP_where) W p)) kP_reached (lft (μ.1 kP_reached) R p)) kP_done (lft (μ.1 kP_done) O p)
theorem S_giveBack {D i n p : Nat} {L W R O : Nat → Int32} {hr : Int32} (hD : 1 ≤ D) (hi : i < 10) (hn : n ≤ 20) (hp : p ≤ 8) (μ : m2M) (h : kpt μ i n p L W R O hr) (h3 : ∀ q, q < p → b01 (R q) ∧ b01 (O q)) : m2_MT D yX3_giveBack cX3_giveBack 4 none [.ref (kK i), .ref kD, .ref kP] μ (fun _ μ' => μ' = gbC μ n p L W R O hr) := by
  obtain ⟨D, rfl⟩ : ∃ E, D = E + 1 := ⟨D - 1, by omega⟩
  obtain ⟨k4, k5, k6, kl, kq⟩ := h
  refine m2_MT.intro (ls := [.ref (kK i), .ref kD, .ref kP, .null]) (by decide +kernel) rfl (ble rfl) (fun κ hk => ?_)
  have nK : ∀ c, c < 107 → ∀ k, kK i + k ≠ c := fun c h k => (kk_lt h k).symm
  refine B_X3_giveBack_0 hk hi ?_
  rw [k6]
  have c0 : (0 : Int32).toNatClampNeg = 0 := by decide
  rw [si_nc _ _ _ (show kK i ≠ kD from nK kD (by decide) 0), si_nc _ _ _ (nK kD (by decide) 1), k4, nI_clamp (by omega), c0]
  refine ⟨nI_pos (by omega), by omega, ?_⟩
  have eL : va_cpy (μ.1 (kK i + 1)) ((m2_si μ kD 7 hr).1 kD_left) 0 0 n = lft (μ.1 kD_left) L n := by
    funext d
    by_cases w : d < n
    · rw [pk_cpy_in (by omega) (by omega), show 0 + (d - 0) = d by omega, kl d w]
      exact (if_pos w).symm
    · rw [pk_cpy_out (by omega)]
      exact (if_neg w).symm
  rw [eL]
  generalize hμ : m2_sr (m2_si μ kD 7 hr) kD_left (lft (μ.1 kD_left) L n) = μ1
  have eN : ∀ k, k < 5 → μ1.1 (kK i + k) = μ.1 (kK i + k) := fun k hk => by rw [← hμ, m2_sr_ne _ _ (nK kD_left (by decide) k), si_nc _ _ _ (nK kD (by decide) k)]
  have eW : μ1.1 kP_where = μ.1 kP_where := by rw [← hμ]; rfl
  have eR : μ1.1 kP_reached = μ.1 kP_reached := by rw [← hμ]; rfl
  have eO : μ1.1 kP_done = μ.1 kP_done := by rw [← hμ]; rfl
  have key := dn (n := p) (G := fun q => κ 27 [.ref (kK i), .ref kD, .ref kP, .int (nI q)] [] (m2_sr (m2_sr (m2_sr μ1 kP_where (lft (μ.1 kP_where) W q)) kP_reached (lft (μ.1 kP_reached) R q)) kP_done (lft (μ.1 kP_done) O q))) ?_ (fun q hq ih => ?_)
  · rw [lft_0, lft_0, lft_0, ← eW, ← eR, ← eO, m2_sr_id, m2_sr_id, m2_sr_id] at key
    exact key
  · have e5 : (m2_sr (m2_sr (m2_sr μ1 kP_where (lft (μ.1 kP_where) W p)) kP_reached (lft (μ.1 kP_reached) R p)) kP_done (lft (μ.1 kP_done) O p)).1 (kK i) 5 = nI p := by
      rw [m2_sr_ne _ _ (show kK i ≠ kP_done from nK kP_done (by decide) 0), m2_sr_ne _ _ (show kK i ≠ kP_reached from nK kP_reached (by decide) 0), m2_sr_ne _ _ (show kK i ≠ kP_where from nK kP_where (by decide) 0)]
      exact (congrFun (eN 0 (by decide)) 5).trans k5
    refine B_X3_giveBack_27 hk hi ⟨fun _ => ?_, fun z => absurd (by rw [e5]; exact nI_le (Nat.le_refl p) (by omega)) z⟩
    subst hμ
    rfl
  · have eC : ∀ k j, k < 5 → (m2_sr (m2_sr (m2_sr μ1 kP_where (lft (μ.1 kP_where) W q)) kP_reached (lft (μ.1 kP_reached) R q)) kP_done (lft (μ.1 kP_done) O q)).1 (kK i + k) j = μ.1 (kK i + k) j := by
      intro k j hk
      rw [m2_sr_ne _ _ (nK kP_done (by decide) k), m2_sr_ne _ _ (nK kP_reached (by decide) k), m2_sr_ne _ _ (nK kP_where (by decide) k), eN k hk]
    have e5 := (eC 0 5 (by decide)).trans k5
    rw [Nat.add_zero] at e5
    refine B_X3_giveBack_27 hk hi ⟨fun z => absurd (by rw [e5] at z; exact z) (nI_ge hq (by omega)), fun _ => ⟨vp_in_nI (by omega) (by decide), ?_⟩⟩
    rw [nI_clamp (by omega), nI_1]
    rw [si_nc _ _ _ (nK kP_where (by decide) 3), si_nc _ _ _ (nK kP_reached (by decide) 4), si_nc _ _ _ (nK kP_where (by decide) 4)]
    rw [eC 2 q (by decide), eC 3 q (by decide), eC 4 q (by decide), (kq q hq).1, (kq q hq).2.1, (kq q hq).2.2, nar_b (h3 q hq).1, nar_b (h3 q hq).2]
    have st : ∀ (f g h : Nat → Int32) (x y z : Int32), m2_si (m2_si (m2_si (m2_sr (m2_sr (m2_sr μ1 kP_where f) kP_reached g) kP_done h) kP_where q x) kP_reached q y) kP_done q z = m2_sr (m2_sr (m2_sr μ1 kP_where (upd f q x)) kP_reached (upd g q y)) kP_done (upd h q z) := by
      intro f g h x y z
      rw [m2_sr_comm _ (c := kP_reached) (c' := kP_done) _ _ (by decide), m2_sr_comm _ (c := kP_where) (c' := kP_done) _ _ (by decide), m2_sr_comm _ (c := kP_where) (c' := kP_reached) _ _ (by decide), m2_si_sr]
      rw [m2_sr_comm _ (c := kP_reached) (c' := kP_where) _ _ (by decide), m2_si_sr, m2_sr_comm _ (c := kP_done) (c' := kP_where) _ _ (by decide), m2_sr_comm _ (c := kP_done) (c' := kP_reached) _ _ (by decide), m2_si_sr]
    rw [st, lft_s, lft_s, lft_s]
    exact ih
/-! put, again -/
theorem RLn.hour {ν μ : m2M} {n p : Nat} {x : Int32} (q : RLn ν μ n p) (h : in_ 24 x) : RLn (m2_si ν kM 16 x) (m2_si μ kD 7 x) n p := by
  obtain ⟨h1, h2, h3, h4, h5, h6, h7, h8, h9⟩ := q
  exact ⟨h1, h2, h3, h4, h5, r_K_c (Or.inl (by decide)) (r_K_m rfl h6), ⟨rfl, h⟩, h8, h9⟩
theorem vM.left {ν μ : m2M} (h : vM ν μ) (d : Nat) : μ.1 kM_left d = ν.1 kM_left d := h.1 kM_left d rfl rfl
theorem vM_ptG {ν μ : m2M} {i : Nat} (h : vM ν μ) : ptG μ i = ptG ν i := by
  funext j
  unfold ptG
  rw [h.1 kM_left _ rfl rfl, h.1 kM_where _ rfl rfl, h.1 kM_wasThere _ rfl rfl, h.1 kM_isDone _ rfl rfl, h.1 kM 16 rfl rfl]
theorem vM_tkM {ν μ : m2M} {i n p : Nat} (h : vM ν μ) (hp : ∀ j, 45 * i ≤ j → j < 45 * i + 45 → μ.1 kM_put j = ν.1 kM_put j) (hp8 : p ≤ 8) (hn : n ≤ 20) : vM (tkM ν i n p) (tkM μ i n p) := by
  unfold tkM
  rw [hp (45 * i + 44) (by omega) (by omega)]
  refine vM.si (vM.sr (vM.sr (vM.sr (vM.sr h (by decide) (fun j _ => ?_)) (by decide) (fun j _ => ?_)) (by decide) (fun j _ => ?_)) (by decide) (fun j _ => ?_)) rfl
  · unfold lft
    by_cases w : j < n
    · rw [if_pos w, if_pos w]
      show μ.1 kM_put (45 * i + j) = ν.1 kM_put (45 * i + j)
      rw [hp _ (by omega) (by omega)]
    · rw [if_neg w, if_neg w, h.1 kM_left j rfl rfl]
  · unfold lft
    by_cases w : j < p
    · rw [if_pos w, if_pos w]
      show μ.1 kM_put (45 * i + 20 + 3 * j) = ν.1 kM_put (45 * i + 20 + 3 * j)
      rw [hp _ (by omega) (by omega)]
    · rw [if_neg w, if_neg w, h.1 kM_where j rfl rfl]
  · unfold lft
    by_cases w : j < p
    · rw [if_pos w, if_pos w]
      show (if μ.1 kM_put (45 * i + 20 + 3 * j + 1) = 1 then 1 else 0 : Int32) = (if ν.1 kM_put (45 * i + 20 + 3 * j + 1) = 1 then 1 else 0)
      rw [hp _ (by omega) (by omega)]
    · rw [if_neg w, if_neg w, h.1 kM_wasThere j rfl rfl]
  · unfold lft
    by_cases w : j < p
    · rw [if_pos w, if_pos w]
      show (if μ.1 kM_put (45 * i + 20 + 3 * j + 2) = 1 then 1 else 0 : Int32) = (if ν.1 kM_put (45 * i + 20 + 3 * j + 2) = 1 then 1 else 0)
      rw [hp _ (by omega) (by omega)]
    · rw [if_neg w, if_neg w, h.1 kM_isDone j rfl rfl]
/-- both sides come back to what was kept -/
theorem RLn.back {ν μ : m2M} {n p i kn kp : Nat} {L W R O : Nat → Int32} {hr : Int32} (q : RLn ν μ n p) (hkn : kn ≤ n) (hkp : kp ≤ p) (hh : hr = ν.1 kM_put (45 * i + 44)) (hh2 : in_ 24 hr) (hL : ∀ d, d < kn → L d = ν.1 kM_put (45 * i + d) ∧ in_ 61 (L d)) (hP : ∀ w, w < kp → W w = ν.1 kM_put (45 * i + 20 + 3 * w) ∧ in_ 12 (W w) ∧ R w = ν.1 kM_put (45 * i + 20 + 3 * w + 1) ∧ b01 (R w) ∧ O w = ν.1 kM_put (45 * i + 20 + 3 * w + 2) ∧ b01 (O w) ∧ (ν.1 kM_errand w = -1 → R w = 0 ∧ O w = 0) ∧ ivP (ν.1 kM_errand w) (W w) (R w) (O w) (ν.1 kM_comesBack w) (ν.1 kM_home w)) : RLn (tkM ν i kn kp) (gbC μ kn kp L W R O hr) n p := by
  have f1 : ∀ x : Int32, b01 x → (if x = 1 then (1 : Int32) else 0) = x := by
    rintro x (rfl | rfl) <;> decide
  have a1 := RLn.left (f := lft (μ.1 kD_left) L kn) (g := lft (ν.1 kM_left) (fun d => ν.1 kM_put (45 * i + d)) kn) (q.hour hh2) ?_
  · have a2 := RLn.people (w := lft (ν.1 kM_where) (fun q => ν.1 kM_put (45 * i + 20 + 3 * q)) kp) (t := lft (ν.1 kM_wasThere) (fun q => if ν.1 kM_put (45 * i + 20 + 3 * q + 1) = 1 then 1 else 0) kp) (o := lft (ν.1 kM_isDone) (fun q => if ν.1 kM_put (45 * i + 20 + 3 * q + 2) = 1 then 1 else 0) kp) (w' := lft (μ.1 kP_where) W kp) (t' := lft (μ.1 kP_reached) R kp) (o' := lft (μ.1 kP_done) O kp) a1 ?_
    · have e : tkM ν i kn kp = m2_sr (m2_sr (m2_sr (m2_sr (m2_si ν kM 16 hr) kM_left (lft (ν.1 kM_left) (fun d => ν.1 kM_put (45 * i + d)) kn)) kM_where (lft (ν.1 kM_where) (fun q => ν.1 kM_put (45 * i + 20 + 3 * q)) kp)) kM_wasThere (lft (ν.1 kM_wasThere) (fun q => if ν.1 kM_put (45 * i + 20 + 3 * q + 1) = 1 then 1 else 0) kp)) kM_isDone (lft (ν.1 kM_isDone) (fun q => if ν.1 kM_put (45 * i + 20 + 3 * q + 2) = 1 then 1 else 0) kp) := by
        unfold tkM
        rw [← hh]
        unfold m2_si
        rw [m2_sr_comm _ (c := kM_isDone) (c' := kM) _ _ (by decide), m2_sr_comm _ (c := kM_wasThere) (c' := kM) _ _ (by decide), m2_sr_comm _ (c := kM_where) (c' := kM) _ _ (by decide), m2_sr_comm _ (c := kM_left) (c' := kM) _ _ (by decide)]
        rfl
      rw [e]
      exact a2
    · intro w hw
      unfold lft
      by_cases z : w < kp
      · simp only [if_pos z]
        obtain ⟨b1, b2, b3, b4, b5, b6, b7, b8⟩ := hP w z
        rw [← b1, ← b3, ← b5, f1 _ b4, f1 _ b6]
        exact ⟨rfl, rfl, rfl, b2, b4, b6, b7, b8⟩
      · simp only [if_neg z]
        obtain ⟨⟨a1, a2, a3, a4, a5, a6, a7, a8⟩, b1, b2, b3, b4, b5, b6, b7, b8, b9⟩ := q.2.1.2.2.2 w hw
        exact ⟨a1, a7, a8, b1, b7, b8, b9, q.2.2.2.2.2.2.2.2.2.1 p w q.2.1.2.1 q.2.1.2.2.1 hw⟩
  · intro d hd
    unfold lft
    by_cases z : d < kn
    · rw [if_pos z, if_pos z]
      exact ⟨(hL d z).1, show in_ 61 (ν.1 kM_put (45 * i + d)) from (hL d z).1 ▸ (hL d z).2⟩
    · rw [if_neg z, if_neg z]
      exact ⟨(q.1.2.2.2 d hd).1.2.2.2.2.1, (q.1.2.2.2 d hd).2.2.2.2.2.2.1⟩
theorem frC_gbC {μ ρ : m2M} {n p : Nat} {L W R O : Nat → Int32} {hr : Int32} (h : frC ρ μ) : frC ρ (gbC μ n p L W R O hr) := fr_sr rfl (fr_sr rfl (fr_sr rfl (fr_sr rfl (fr_si rfl h))))
theorem frM_tkM {μ ρ : m2M} {i n p : Nat} (h : frM ρ μ) : frM ρ (tkM μ i n p) := fr_si rfl (fr_sr rfl (fr_sr rfl (fr_sr rfl (fr_sr rfl h))))
theorem T_again {D : Nat} (hD : 3 ≤ D) (x : Int32) (μ : m2M) (h : REL μ) : stp D yX11_again cX11_again 2 (some .boolean) yX12_again cX12_again 2 (some .boolean) [.int x] μ REL := by
  obtain ⟨D, rfl⟩ : ∃ E, D = E + 1 := ⟨D - 1, by omega⟩
  obtain ⟨n, p, hR⟩ := id h
  have hR : RLn μ μ n p := hR
  have hn : n ≤ 20 := hR.1.2.2.1
  have hp : p ≤ 8 := hR.2.1.2.2.1
  by_cases ok : ∃ i : Nat, x = nI i ∧ i < 3 ∧ μ.1 kM_isKept i = 1
  · obtain ⟨i, rfl, hi, hK⟩ := ok
    obtain ⟨k1, k2, k3⟩ := hR.2.2.2.2.2.1 i hi
    obtain ⟨kn, kp, ⟨a1, a1'⟩, ⟨a2, a2'⟩, a3, a4, a5, a6, a7, a8, a9, a10⟩ := k3 hK
    have hk1 : μ.1 (kK i) 7 ≠ 0 := by rw [k1, hK]; decide
    refine T_of (some (.int 1)) (tkM μ i kn kp) ?_ (fun ν hv => ?_)
    · refine m2_MT.intro (ls := [.ref kC, .int (nI i)]) (by decide +kernel) rfl (ble rfl) (fun κ hk => ?_)
      refine B_X11_again_0 hk ⟨fun z => absurd z (nI_pos (by omega)), fun _ => ⟨fun z => absurd z (nI_ge (b := 3) hi (by decide)), fun _ => ⟨i, rfl, by omega, fun _ => ⟨i, rfl, by omega, ?_⟩, fun z => absurd z hk1⟩⟩⟩
      refine ⟨_, S_giveBack (n := kn) (p := kp) (L := μ.1 (kK i + 1)) (W := μ.1 (kK i + 2)) (R := μ.1 (kK i + 3)) (O := μ.1 (kK i + 4)) (hr := μ.1 (kK i) 6) (by omega) (by omega) a1' a2' μ ⟨a3, a5, rfl, fun _ _ => rfl, fun _ _ => ⟨rfl, rfl, rfl⟩⟩ ?_, fun μ9 e9 => ?_⟩
      · intro q hq
        obtain ⟨c1, c2, c3, c4, c5, c6, c7⟩ := a10 q hq
        rw [c3, c5]
        exact ⟨c4, c6⟩
      · subst e9
        refine ⟨rfl, (RLn.back hR a1 a2 a7 (by rw [a7]; exact a8) (fun d hd => ?_) (fun w hw => ?_)).r, frC_gbC fr.rf⟩
        · exact ⟨(a9 d hd).1, by rw [(a9 d hd).1]; exact (a9 d hd).2⟩
        · obtain ⟨c1, c2, c3, c4, c5, c6, c7⟩ := a10 w hw
          refine ⟨c1, by rw [c1]; exact c2, c3, by rw [c3]; exact c4, c5, by rw [c5]; exact c6, ?_, ?_⟩
          · rw [c3, c5]
            exact c7
          · rw [c1, c3, c5]
            exact hR.2.2.2.2.2.2.2.2.2.2 i kp w hi hK a6 a2' hw
    · have hv' := hv.thr
      refine m2_MT.intro (ls := [.ref kM, .int (nI i)]) (by decide +kernel) rfl (ble rfl) (fun κ hk => ?_)
      refine B_X12_again_0 hk (Nat.zero_le _) ⟨fun _ => ⟨vp_in_nI hi (by decide), ?_⟩, fun z => absurd ((in_k (k := 2) (by decide)).mpr ⟨i, hi, rfl⟩) z⟩
      rw [nI_clamp (by omega), hv.1 kM_isKept i rfl rfl, hv.1 kM_keptDoors i rfl rfl, hv.1 kM_keptPeople i rfl rfl, a4, a6, hK]
      refine ⟨fun _ => ⟨_, S_takeOut (by omega) a1' a2' (m2_si ν kM 22 0), fun μ10 e10 => ?_⟩, fun z => absurd z (by decide)⟩
      subst e10
      refine ⟨rfl, vM_tkM hv' (fun j h1 h2 => hv'.1 kM_put j rfl (scr_put (by omega))) a2' a1', frM_tkM (fr_si rfl fr.rf)⟩
  · have k3 : ∀ i, i < 3 → μ.1 kM_isKept i = 0 ∨ μ.1 kM_isKept i = 1 := fun i hi => (hR.2.2.2.2.2.1 i hi).2.1
    refine T_of (some (.int 0)) μ ?_ (fun ν hv => ?_)
    · refine m2_MT.intro (ls := [.ref kC, .int x]) (by decide +kernel) rfl (ble rfl) (fun κ hk => ?_)
      refine B_X11_again_0 hk ⟨fun _ => ⟨rfl, h, fr.rf⟩, fun q0 => ⟨fun _ => ⟨rfl, h, fr.rf⟩, fun q1 => ?_⟩⟩
      obtain ⟨i, hi, rfl⟩ := i32_in (k := 3) (by decide) q0 (Int32.not_le.mp q1)
      refine ⟨i, rfl, by omega, fun z => ?_, fun _ => ⟨rfl, h, fr.rf⟩⟩
      rw [(hR.2.2.2.2.2.1 i hi).1] at z
      exact absurd ⟨i, rfl, hi, (k3 i hi).resolve_left z⟩ ok
    · have fin : (some (Value.int 0) = some (Value.int 0) ∧ vM μ (m2_si ν kM 22 0) ∧ frM ν (m2_si ν kM 22 0)) := ⟨rfl, hv.thr, fr_si rfl fr.rf⟩
      refine m2_MT.intro (ls := [.ref kM, .int x]) (by decide +kernel) rfl (ble rfl) (fun κ hk => ?_)
      refine B_X12_again_0 hk (Nat.zero_le _) ⟨fun q => ?_, fun _ => fin⟩
      obtain ⟨i, hi, rfl⟩ := (in_k (k := 2) (by decide)).mp q
      rw [nI_clamp (by omega), hv.1 kM_isKept i rfl rfl]
      exact ⟨vp_in_nI hi (by decide), fun z => absurd ⟨i, rfl, hi, (k3 i hi).resolve_left z⟩ ok, fun _ => fin⟩
theorem fr_kk {μ μ' : m2M} {i : Nat} (h : fr (kkS i) μ μ') : frC μ μ' := by
  intro c hc
  refine h c ?_
  by_cases z : c < 107
  · exact kkS_out z
  · exfalso
    have hc : (!isM c) = false := hc
    have : isM c = false := by
      unfold isM
      have : Nat.ble c 106 = false := by
        cases e : Nat.ble c 106 with
        | false => rfl
        | true => have := Nat.le_of_ble_eq_true e; omega
      rw [this, Bool.and_false]
    rw [this] at hc
    cases hc
theorem T_put {D : Nat} (hD : 3 ≤ D) (x : Int32) (μ : m2M) (h : REL μ) : stp D yX11_put cX11_put 2 (some .boolean) yX12_put cX12_put 2 (some .boolean) [.int x] μ REL := by
  obtain ⟨D, rfl⟩ : ∃ E, D = E + 1 := ⟨D - 1, by omega⟩
  obtain ⟨n, p, hR⟩ := id h
  have hR : RLn μ μ n p := hR
  have hn : n ≤ 20 := hR.1.2.2.1
  have hp : p ≤ 8 := hR.2.1.2.2.1
  by_cases ok : in_ 3 x
  · obtain ⟨i, hi, rfl⟩ := ok
    refine T_of (some (.int 1)) (m2_sr (m2_si (m2_si (m2_si μ kM_isKept i 1) kM_keptDoors i (nI n)) kM_keptPeople i (nI p)) kM_put (ptF μ i)) ?_ (fun ν hv => ?_)
    · refine m2_MT.intro (ls := [.ref kC, .int (nI i)]) (by decide +kernel) rfl (ble rfl) (fun κ hk => ?_)
      refine B_X11_put_0 hk ⟨fun z => absurd z (nI_pos (by omega)), fun _ => ⟨fun _ => ⟨i, rfl, by omega, _, S_take (by omega) (by omega) hn hp μ hR.1.1 hR.2.1.1 (fun q hq => ?_), fun μ6 r6 => ?_⟩, fun z => absurd (nI_lt (b := 3) hi (by decide)) z⟩⟩
      · obtain ⟨⟨a1, a2, a3, a4, a5, a6, a7, a8⟩, b1, b2, b3, b4, b5, b6, b7, b8, b9⟩ := hR.2.1.2.2.2 q hq
        rw [a7, a8]
        exact ⟨b7, b8⟩
      · obtain ⟨⟨t1, t2, t3, t4, t5⟩, t6, t7⟩ := r6
        refine ⟨rfl, ?_, fr_kk t7⟩
        have g : ∀ c, c < 107 → μ6.1 c = μ.1 c := fun c h => (t7 c (kkS_out h)).1
        obtain ⟨h1, h2, h3, h4, h5, h6, h7, h8, h9⟩ := id hR
        have ag6 : ∀ c j, c < 107 → μ6.1 c j = μ.1 c j := fun c j h => congrFun (g c h) j
        have r2 : μ6.2 kC_row = μ.2 kC_row := (t7 kC_row (kkS_out (by decide))).2
        refine ⟨n, p, ?_, ?_, ?_, ?_, ?_, ?_, ?_, ?_, ?_⟩
        · refine ⟨(ag6 kD 6 (by decide)).trans h1.1, h1.2.1, h1.2.2.1, fun d hd => ?_⟩
          rw [ag6 kD_a _ (by decide), ag6 kD_b _ (by decide), ag6 kD_oneWay _ (by decide), ag6 kD_lets _ (by decide), ag6 kD_left _ (by decide), ag6 kD_noon _ (by decide)]
          exact h1.2.2.2 d hd
        · refine ⟨(ag6 kP 8 (by decide)).trans h2.1, h2.2.1, h2.2.2.1, fun d hd => ?_⟩
          rw [ag6 kP_where _ (by decide), ag6 kP_first _ (by decide), ag6 kP_stranger _ (by decide), ag6 kP_worth _ (by decide), ag6 kP_errand _ (by decide), ag6 kP_back _ (by decide), ag6 kP_reached _ (by decide), ag6 kP_done _ (by decide)]
          exact h2.2.2.2 d hd
        · obtain ⟨t, c1, c2, c3, c4⟩ := h3
          refine ⟨t, c1, (ag6 kC 1 (by decide)).trans c2, c3, fun i hi => ?_⟩
          rw [ag6 kC_text _ (by decide)]
          exact c4 i hi
        · obtain ⟨t, c1, c2, c3, c4⟩ := h4
          refine ⟨t, c1, (ag6 kC 3 (by decide)).trans c2, c3, fun i hi => ?_⟩
          rw [r2]
          exact c4 i hi
        · obtain ⟨t, c1, c2, c3, c4⟩ := h5
          refine ⟨t, c1, (ag6 kC 7 (by decide)).trans c2, c3, fun i hi => ?_⟩
          rw [ag6 kC_sayingMaid _ (by decide), ag6 kC_sayingDoor _ (by decide), ag6 kC_sayingNumber _ (by decide)]
          exact c4 i hi
        · intro i' hi'
          have pin : ∀ j, 45 * i ≤ j → j < 45 * i + 45 → ptF μ i j = ptG μ i j := fun j z1 z2 => if_pos ⟨z1, z2⟩
          have pout : ∀ j, (j < 45 * i ∨ 45 * i + 45 ≤ j) → ptF μ i j = μ.1 kM_put j := fun j z => if_neg (by omega)
          show μ6.1 (kK i') 7 = upd (μ.1 kM_isKept) i 1 i' ∧ b01 (upd (μ.1 kM_isKept) i 1 i') ∧ (upd (μ.1 kM_isKept) i 1 i' = 1 → ∃ kn kp : Nat, (kn ≤ n ∧ kn ≤ 20) ∧ (kp ≤ p ∧ kp ≤ 8) ∧ μ6.1 (kK i') 4 = nI kn ∧ upd (μ.1 kM_keptDoors) i (nI n) i' = nI kn ∧ μ6.1 (kK i') 5 = nI kp ∧ upd (μ.1 kM_keptPeople) i (nI p) i' = nI kp ∧ μ6.1 (kK i') 6 = ptF μ i (45 * i' + 44) ∧ in_ 24 (ptF μ i (45 * i' + 44)) ∧ (∀ d, d < kn → μ6.1 (kK i' + 1) d = ptF μ i (45 * i' + d) ∧ in_ 61 (ptF μ i (45 * i' + d))) ∧ ∀ q, q < kp → μ6.1 (kK i' + 2) q = ptF μ i (45 * i' + 20 + 3 * q) ∧ in_ 12 (ptF μ i (45 * i' + 20 + 3 * q)) ∧ μ6.1 (kK i' + 3) q = ptF μ i (45 * i' + 20 + 3 * q + 1) ∧ b01 (ptF μ i (45 * i' + 20 + 3 * q + 1)) ∧ μ6.1 (kK i' + 4) q = ptF μ i (45 * i' + 20 + 3 * q + 2) ∧ b01 (ptF μ i (45 * i' + 20 + 3 * q + 2)) ∧ (μ.1 kM_errand q = -1 → ptF μ i (45 * i' + 20 + 3 * q + 1) = 0 ∧ ptF μ i (45 * i' + 20 + 3 * q + 2) = 0))
          by_cases w : i' = i
          · subst w
            rw [upd_at, upd_at, upd_at]
            refine ⟨t6, Or.inr rfl, fun _ => ⟨n, p, ⟨Nat.le_refl n, hn⟩, ⟨Nat.le_refl p, hp⟩, t1, rfl, t2, rfl, ?_, ?_, fun d hd => ?_, fun q hq => ?_⟩⟩
            · rw [pin _ (by omega) (by omega), ptG_h, t3]; exact h7.1
            · rw [pin _ (by omega) (by omega), ptG_h]; exact h7.2
            · rw [pin _ (by omega) (by omega), ptG_l _ _ _ (by omega), t4 d hd]
              exact ⟨(h1.2.2.2 d hd).1.2.2.2.2.1, (h1.2.2.2 d hd).2.2.2.2.2.2.1⟩
            · obtain ⟨⟨a1, a2, a3, a4, a5, a6, a7, a8⟩, b1, b2, b3, b4, b5, b6, b7, b8, b9⟩ := h2.2.2.2 q hq
              rw [pin _ (by omega) (by omega), pin _ (by omega) (by omega), pin _ (by omega) (by omega), ptG_w _ _ _ (by omega), ptG_t _ _ _ (by omega), ptG_o _ _ _ (by omega), (t5 q hq).1, (t5 q hq).2.1, (t5 q hq).2.2, a1, a7, a8]
              have f1 : ∀ x : Int32, b01 x → (if x = 0 then (0 : Int32) else 1) = x := by
                rintro x (rfl | rfl) <;> decide
              rw [f1 _ b7, f1 _ b8]
              exact ⟨rfl, b1, rfl, b7, rfl, b8, b9⟩
          · rw [upd_ne w, upd_ne w, upd_ne w]
            have eo : ∀ k j, k < 5 → μ6.1 (kK i' + k) j = μ.1 (kK i' + k) j := by
              intro k j hk
              refine congrFun (t7 _ ?_).1 j
              have e1 : kK i' = 107 + 5 * i' := rfl
              have e2 : kK i = 107 + 5 * i := rfl
              unfold kkS
              cases z1 : Nat.ble (kK i) (kK i' + k) with
              | false => rfl
              | true =>
                cases z2 : Nat.ble (kK i' + k) (kK i + 4) with
                | false => rfl
                | true =>
                  have := Nat.le_of_ble_eq_true z1
                  have := Nat.le_of_ble_eq_true z2
                  exfalso
                  omega
            have eo0 : ∀ j, μ6.1 (kK i') j = μ.1 (kK i') j := fun j => eo 0 j (by decide)
            rw [eo0, eo0, eo0, eo0]
            obtain ⟨k1, k2, k3⟩ := h6 i' hi'
            refine ⟨k1, k2, fun z => ?_⟩
            obtain ⟨kn, kp, ⟨a1, a1'⟩, ⟨a2, a2'⟩, a3, a4, a5, a6, a7, a8, a9, a10⟩ := k3 z
            refine ⟨kn, kp, ⟨a1, a1'⟩, ⟨a2, a2'⟩, a3, a4, a5, a6, ?_, ?_, fun d hd => ?_, fun q hq => ?_⟩
            · rw [pout _ (by omega)]; exact a7
            · rw [pout _ (by omega)]; exact a8
            · rw [pout _ (by omega), eo 1 d (by decide)]; exact a9 d hd
            · rw [pout _ (by omega), pout _ (by omega), pout _ (by omega), eo 2 q (by decide), eo 3 q (by decide), eo 4 q (by decide)]
              exact a10 q hq
        · exact ⟨(ag6 kD 7 (by decide)).trans h7.1, h7.2⟩
        · exact ⟨(ag6 kW 6 (by decide)).trans h8.1, h8.2⟩
        · obtain ⟨⟨k, l, c1, c2, c3, c4, c5, c6, c7⟩, c8, c9⟩ := h9
          refine ⟨⟨k, l, c1, c2, c3, c4, (ag6 kE 2 (by decide)).trans c5, fun i c q => (ag6 kE_code i (by decide)).trans (c6 i c q), (ag6 kE 3 (by decide)).trans c7⟩, c8, ?_⟩
          intro i' kp q hi' e1 e2 hkp hq
          have pin : ∀ j, 45 * i ≤ j → j < 45 * i + 45 → ptF μ i j = ptG μ i j := fun j z1 z2 => if_pos ⟨z1, z2⟩
          have pout : ∀ j, (j < 45 * i ∨ 45 * i + 45 ≤ j) → ptF μ i j = μ.1 kM_put j := fun j z => if_neg (by omega)
          have e1 : upd (μ.1 kM_isKept) i 1 i' = 1 := e1
          have e2 : upd (μ.1 kM_keptPeople) i (nI p) i' = nI kp := e2
          show ivP (μ.1 kM_errand q) (ptF μ i (45 * i' + 20 + 3 * q)) (ptF μ i (45 * i' + 20 + 3 * q + 1)) (ptF μ i (45 * i' + 20 + 3 * q + 2)) (μ.1 kM_comesBack q) (μ.1 kM_home q)
          by_cases w : i' = i
          · subst w
            rw [upd_at] at e2
            have hpp := (nI_eq (by omega) (by omega)).mp e2
            subst hpp
            obtain ⟨⟨a1, a2, a3, a4, a5, a6, a7, a8⟩, b1, b2, b3, b4, b5, b6, b7, b8, b9⟩ := h2.2.2.2 q hq
            have f1 : ∀ x : Int32, b01 x → (if x = 0 then (0 : Int32) else 1) = x := by
              rintro x (rfl | rfl) <;> decide
            rw [pin _ (by omega) (by omega), pin _ (by omega) (by omega), pin _ (by omega) (by omega), ptG_w _ _ _ (by omega), ptG_t _ _ _ (by omega), ptG_o _ _ _ (by omega), f1 _ b7, f1 _ b8]
            exact c8 p q h2.2.1 hp hq
          · rw [upd_ne w] at e1 e2
            rw [pout _ (by omega), pout _ (by omega), pout _ (by omega)]
            exact c9 i' kp q hi' e1 e2 hkp hq
    · have hv' := hv.thr
      refine m2_MT.intro (ls := [.ref kM, .int (nI i)]) (by decide +kernel) rfl (ble rfl) (fun κ hk => ?_)
      refine B_X12_put_0 hk (Nat.zero_le _) ⟨fun _ => ⟨vp_in_nI hi (by decide), ?_⟩, fun z => absurd ((in_k (k := 2) (by decide)).mpr ⟨i, hi, rfl⟩) z⟩
      rw [nI_clamp (by omega), nar_1, hv.1 kM 0 rfl rfl, hv.1 kM 7 rfl rfl, hR.1.2.1, hR.2.1.2.1]
      have hv3 := ((hv'.si (c := kM_isKept) (j := i) (x := 1) rfl).si (c := kM_keptDoors) (j := i) (x := nI n) rfl).si (c := kM_keptPeople) (j := i) (x := nI p) rfl
      refine ⟨_, S_putIn (by omega) _, fun μ9 e9 => ?_⟩
      subst e9
      refine ⟨rfl, hv3.sr (by decide) (fun j hj => ?_), fr_sr rfl (fr_si rfl (fr_si rfl (fr_si rfl (fr_si rfl fr.rf))))⟩
      have e1 := congrFun (vM_ptG (i := i) hv3) j
      have e2 : ptG (m2_si (m2_si (m2_si μ kM_isKept i 1) kM_keptDoors i (nI n)) kM_keptPeople i (nI p)) i j = ptG μ i j := rfl
      show (if _ then _ else _) = (if _ then _ else _)
      by_cases z : 45 * i ≤ j ∧ j < 45 * i + 45
      · rw [if_pos z, if_pos z, e1, e2]
      · rw [if_neg z, if_neg z]
        exact hv.1 kM_put j rfl hj
  · refine T_of (some (.int 0)) μ ?_ (fun ν hv => ?_)
    · refine m2_MT.intro (ls := [.ref kC, .int x]) (by decide +kernel) rfl (ble rfl) (fun κ hk => ?_)
      exact B_X11_put_0 hk ⟨fun _ => ⟨rfl, h, fr.rf⟩, fun q0 => ⟨fun q1 => absurd (i32_in (k := 3) (by decide) q0 q1) ok, fun _ => ⟨rfl, h, fr.rf⟩⟩⟩
    · refine m2_MT.intro (ls := [.ref kM, .int x]) (by decide +kernel) rfl (ble rfl) (fun κ hk => ?_)
      exact B_X12_put_0 hk (Nat.zero_le _) ⟨fun z => absurd ((in_k (k := 2) (by decide)).mp z) ok, fun _ => ⟨rfl, hv.thr, fr_si rfl fr.rf⟩⟩
