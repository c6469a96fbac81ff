/-! THE PRICE on both sides; priced -/
def prL (ν : m2M) : List Int32 := if ν.1 kM 29 = 0 then [] else (cp (ν.1 kM_price) (ν.1 kM 29).toNatClampNeg 400 0 0 0).2.2
theorem RLn.X {ν μ : m2M} {n p : Nat} (h : RLn ν μ n p) : ∃ k : Nat, k ≤ 40 ∧ ν.1 kM 29 = nI k ∧ (k = 0 ↔ prL ν = []) ∧ (k ≠ 0 → cp (ν.1 kM_price) k 400 0 0 0 = (true, k, prL ν)) ∧ (prL ν).length ≤ 40 ∧ μ.1 kE 2 = nI (prL ν).length ∧ (∀ i c, (prL ν)[i]? = some c → μ.1 kE_code i = c) ∧ μ.1 kE 3 = (if (-6) ∈ prL ν then 1 else 0) := by
  obtain ⟨k, l, h1, h2, h3, h4, h5, h6, h7⟩ := h.2.2.2.2.2.2.2.2.1
  have e : prL ν = l := by
    unfold prL
    rw [h2]
    rcases h3 with ⟨rfl, rfl⟩ | ⟨w1, w2, w3⟩
    · rfl
    · rw [if_neg (nI_ne0 w1 (by omega)), nI_clamp (by omega), w3]
  rw [e]
  refine ⟨k, h1, h2, ?_, ?_, h4, h5, h6, h7⟩
  · rcases h3 with ⟨rfl, rfl⟩ | ⟨w1, w2, w3⟩
    · simp
    · exact ⟨fun z => by omega, fun z => absurd z w2⟩
  · rcases h3 with ⟨rfl, rfl⟩ | ⟨w1, w2, w3⟩
    · exact fun z => absurd rfl z
    · exact fun _ => w3
theorem rp_congr {env env' : Int32 → Int32} : ∀ (l s : List Int32), (∀ c, c ∈ l → ¬ c < -6 → c < 0 → env c = env' c) → rp env l s = rp env' l s
  | [], _, _ => rfl
  | c :: l, s, h => by
    have e : stF env c s = stF env' c s := by
      unfold stF
      by_cases z : c < -6
      · rw [if_pos z, if_pos z]
      · rw [if_neg z, if_neg z]
        by_cases z2 : c < 0
        · rw [if_pos z2, if_pos z2, h c (by simp) z z2]
        · rw [if_neg z2, if_neg z2]
    show rp env l (stF env c s) = rp env' l (stF env' c s)
    rw [e]
    exact rp_congr l _ (fun c' hc => h c' (by simp [hc]))
/-- what the names stand for -/
def prE (ν : m2M) (n p q d : Nat) : Int32 → Int32 := fun c => if c = -1 then ν.1 kM_left d else if c = -2 then ν.1 kM_lets d else if c = -3 then (if ν.1 kM_isOneWay d = 0 then 0 else 1) else if c = -4 then ν.1 kM 16 else if c = -5 then ν.1 kM_worth q else nI (cnb (cwF ν n (nI q) d) p)
def prV (ν : m2M) (n p q d : Nat) : Int32 := if prL ν = [] then 1 else m2_max 1 (m2_min 9999 ((rp (prE ν n p q d) (prL ν) []).headD 0))
theorem clampP (x : Int32) : ∃ a : Nat, 1 ≤ a ∧ a ≤ 9999 ∧ m2_max 1 (m2_min 9999 x) = nI a := by
  unfold m2_max m2_min
  by_cases h : x < 9999
  · rw [if_pos h]
    by_cases h2 : 1 < x
    · rw [if_pos h2]
      obtain ⟨j, hj, rfl⟩ := nI_of (x := x) (by
        intro z
        rw [Int32.lt_iff_toInt_lt] at z h2
        have : (1 : Int32).toInt = 1 := by decide
        have : (0 : Int32).toInt = 0 := by decide
        omega)
      have a1 := (nI_ltI (a := 1) (b := j) (by decide) hj).mp h2
      have a2 := (nI_ltI (a := j) (b := 9999) hj (by decide)).mp h
      exact ⟨j, by omega, by omega, rfl⟩
    · rw [if_neg h2]
      exact ⟨1, by decide, by decide, rfl⟩
  · rw [if_neg h]
    exact ⟨9999, by decide, by decide, by decide⟩
theorem prV_in (ν : m2M) (n p q d : Nat) : ∃ a : Nat, 1 ≤ a ∧ a ≤ 9999 ∧ prV ν n p q d = nI a := by
  unfold prV
  by_cases z : prL ν = []
  · rw [if_pos z]; exact ⟨1, by decide, by decide, rfl⟩
  · rw [if_neg z]; exact clampP _
def stk (f : Nat → Int32) : List Int32 → Prop
  | [] => True
  | x :: s => f s.length = x ∧ stk f s
theorem stk_up {f : Nat → Int32} {j : Nat} {x : Int32} : ∀ {s : List Int32}, stk f s → s.length ≤ j → stk (upd f j x) s
  | [], _, _ => trivial
  | y :: s, h, hj => by
    simp only [List.length_cons] at hj
    exact ⟨by rw [upd_ne (by omega)]; exact h.1, stk_up h.2 (by omega)⟩
theorem stF_len (env : Int32 → Int32) (c : Int32) (s : List Int32) : (stF env c s).length ≤ s.length + 1 := by
  unfold stF
  by_cases z : c < -6
  · rw [if_pos z]
    by_cases z2 : c = -256
    · rw [if_pos z2]
      cases s <;> simp
    · rw [if_neg z2]
      match s with
      | [] => simp
      | [x] => simp
      | y :: x :: s => simp
  · rw [if_neg z]
    by_cases z2 : c < 0
    · rw [if_pos z2]; simp
    · rw [if_neg z2]; simp
theorem S_joined {D : Nat} (c x y : Int32) (μ : m2M) : m2_MT D yX7_joined cX7_joined 3 (some .int) [.int c, .int x, .int y] μ (fun r μ' => r = some (.int (jnF c x y)) ∧ μ' = μ) := by
  refine m2_MT.intro (ls := [.int c, .int x, .int y]) (by decide +kernel) rfl (ble rfl) (fun κ hk => ?_)
  refine B_X7_joined_0 hk ?_
  unfold jnF
  refine ⟨fun z => ⟨by rw [if_pos z], rfl⟩, fun z1 => ⟨fun z => ⟨by rw [if_neg z1, if_pos z], rfl⟩, fun z2 => ⟨fun z => ⟨by rw [if_neg z1, if_neg z2, if_pos z], rfl⟩, fun z3 => ⟨fun z => ⟨by rw [if_neg z1, if_neg z2, if_neg z3, if_pos z], rfl⟩, fun z4 => ⟨fun z => ⟨by rw [if_neg z1, if_neg z2, if_neg z3, if_neg z4, if_pos z], rfl⟩, fun z5 => ⟨by rw [if_neg z1, if_neg z2, if_neg z3, if_neg z4, if_neg z5], rfl⟩⟩⟩⟩⟩⟩
theorem neg_ix {c : Int32} (h1 : ¬ c < -6) (h2 : c < 0) : ∃ j : Nat, j < 6 ∧ (-1 : Int32) - c = nI j ∧ c = -1 - nI j := by
  have e1 : (-6 : Int32).toInt = -6 := by decide
  have e2 : (0 : Int32).toInt = 0 := by decide
  rw [Int32.lt_iff_toInt_lt, e1] at h1
  rw [Int32.lt_iff_toInt_lt, e2] at h2
  have hc : c = -1 ∨ c = -2 ∨ c = -3 ∨ c = -4 ∨ c = -5 ∨ c = -6 := by
    have key : ∀ k : Int32, c.toInt = k.toInt → c = k := fun k hk => Int32.toInt_inj.mp hk
    have f1 : (-1 : Int32).toInt = -1 := by decide
    have f2 : (-2 : Int32).toInt = -2 := by decide
    have f3 : (-3 : Int32).toInt = -3 := by decide
    have f4 : (-4 : Int32).toInt = -4 := by decide
    have f5 : (-5 : Int32).toInt = -5 := by decide
    rcases (show c.toInt = -1 ∨ c.toInt = -2 ∨ c.toInt = -3 ∨ c.toInt = -4 ∨ c.toInt = -5 ∨ c.toInt = -6 by omega) with w | w | w | w | w | w
    · exact Or.inl (key _ (w.trans f1.symm))
    · exact Or.inr (Or.inl (key _ (w.trans f2.symm)))
    · exact Or.inr (Or.inr (Or.inl (key _ (w.trans f3.symm))))
    · exact Or.inr (Or.inr (Or.inr (Or.inl (key _ (w.trans f4.symm)))))
    · exact Or.inr (Or.inr (Or.inr (Or.inr (Or.inl (key _ (w.trans f5.symm))))))
    · exact Or.inr (Or.inr (Or.inr (Or.inr (Or.inr (key _ (w.trans e1.symm))))))
  rcases hc with rfl | rfl | rfl | rfl | rfl | rfl
  · exact ⟨0, by decide, by decide, by decide⟩
  · exact ⟨1, by decide, by decide, by decide⟩
  · exact ⟨2, by decide, by decide, by decide⟩
  · exact ⟨3, by decide, by decide, by decide⟩
  · exact ⟨4, by decide, by decide, by decide⟩
  · exact ⟨5, by decide, by decide, by decide⟩
def knE (μ : m2M) : Int32 → Int32 := fun c => μ.1 kE_known (-1 - c).toNatClampNeg
theorem S_workOut {D : Nat} (hD : 1 ≤ D) {l : List Int32} (μ : m2M) (h1 : l.length ≤ 40) (h2 : μ.1 kE 2 = nI l.length) (h3 : ∀ i c, l[i]? = some c → μ.1 kE_code i = c) (h4 : l ≠ [] → ∃ v, rp (knE μ) l [] = [v]) : m2_MT D yX7_workOut cX7_workOut 4 (some .int) [.ref kE] μ (fun r μ' => r = some (.int (if l = [] then 1 else m2_max 1 (m2_min 9999 ((rp (knE μ) l []).headD 0)))) ∧ ∃ g, μ' = m2_sr μ kE_stack g) := by
  obtain ⟨D, rfl⟩ : ∃ E, D = E + 1 := ⟨D - 1, by omega⟩
  refine m2_MT.intro (ls := [.ref kE, .null, .null, .null]) (by decide +kernel) rfl (ble rfl) (fun κ hk => ?_)
  refine B_X7_workOut_0 hk ?_
  rw [h2]
  by_cases hl : l = []
  · subst hl
    refine ⟨fun z => absurd rfl z, fun _ => ⟨rfl, μ.1 kE_stack, (m2_sr_id μ kE_stack).symm⟩⟩
  · have hpos : 0 < l.length := List.length_pos_iff.mpr hl
    refine ⟨fun _ => ?_, fun z => absurd z (nI_ne0 hpos (by omega))⟩
    obtain ⟨v, hv⟩ := h4 hl
    have key := dn (n := l.length) (G := fun i => ∀ (g : Nat → Int32), (rp (knE μ) (l.take i) []).length ≤ i → stk g (rp (knE μ) (l.take i) []) → κ 13 [.ref kE, .int (nI (rp (knE μ) (l.take i) []).length), .int (nI i), .null] [] (m2_sr μ kE_stack g)) ?_ (fun i hi ih => ?_)
    · have := key (μ.1 kE_stack) (Nat.le_refl 0) trivial
      rw [m2_sr_id] at this
      exact this
    · intro g _ hs
      rw [List.take_length] at hs ⊢
      rw [hv] at hs
      refine B_X7_workOut_13 hk (Nat.zero_le _) ⟨fun _ => ⟨?_, g, rfl⟩, fun z => absurd (by rw [show (m2_sr μ kE_stack g).1 kE 2 = nI l.length from h2]; exact nI_le (Nat.le_refl _) (by omega)) z⟩
      rw [if_neg hl, hv, m2_sr_same]
      have : g 0 = v := hs.1
      rw [show (0 : Int32).toNatClampNeg = 0 by decide, this]
      rfl
    · intro g hlen hs
      have e0 : l[i]? = some l[i] := List.getElem?_eq_getElem hi
      have ec : (m2_sr μ kE_stack g).1 kE_code i = l[i] := h3 i _ e0
      have et : rp (knE μ) (l.take (i + 1)) [] = stF (knE μ) l[i] (rp (knE μ) (l.take i) []) := by
        rw [List.take_add_one, e0, rp_app]
        rfl
      rw [et] at ih
      generalize hs0 : rp (knE μ) (l.take i) [] = s at hlen hs ih
      have hlen2 := stF_len (knE μ) l[i] s
      have go : ∀ g', stk g' (stF (knE μ) l[i] s) → κ 13 [.ref kE, .int (nI (stF (knE μ) l[i] s).length), .int (nI (i + 1)), .null] [] (m2_sr μ kE_stack g') := fun g' hg' => ih g' (by omega) hg'
      refine B_X7_workOut_13 hk (Nat.zero_le _) ⟨fun z => absurd (by rw [show (m2_sr μ kE_stack g).1 kE 2 = nI l.length from h2] at z; exact z) (nI_ge hi (by omega)), fun _ => ⟨vp_in_nI (by omega) (by decide), ?_⟩⟩
      rw [nI_clamp (by omega), ec, nI_1]
      unfold stF at go
      refine ⟨fun z => ?_, fun z => ?_⟩
      · rw [if_pos z] at go
        refine ⟨fun z2 => ?_, fun z2 => ?_⟩
        · rw [if_neg z2] at go
          match s, hlen, hs, go with
          | [], hlen, hs, go => exact ⟨fun _ => go g hs, fun w => absurd (by decide) w⟩
          | [x], hlen, hs, go => exact ⟨fun _ => go g hs, fun w => absurd (show nI 1 ≤ 1 by decide) w⟩
          | y :: x :: s, hlen, hs, go =>
            simp only [List.length_cons] at hlen ⊢
            refine ⟨fun w => absurd ((nI_leI (b := 1) (by omega) (by decide)).mp w) (by omega), fun _ => ?_⟩
            rw [pk_m1, nI_pred, nI_clamp (by omega), nI_clamp (by omega), m2_sr_same]
            refine ⟨vp_in_nI (by omega) (by decide), vp_in_nI (by omega) (by decide), _, S_joined _ _ _ _, fun y13 μ14 r14 => ?_⟩
            obtain ⟨e13, e14⟩ := r14
            cases e13
            subst e14
            have hy : g (s.length + 1) = y := hs.1
            have hx : g s.length = x := hs.2.1
            rw [hy, hx, m2_si_sr]
            exact go _ ⟨upd_at _ _ _, stk_up hs.2.2 (Nat.le_refl _)⟩
        · rw [if_pos z2] at go
          match s, hlen, hs, go with
          | [], hlen, hs, go => exact ⟨fun _ => ⟨fun _ => go g hs, fun w => absurd (by decide) w⟩, fun w => absurd (by decide) w⟩
          | x :: s, hlen, hs, go =>
            simp only [List.length_cons] at hlen ⊢
            refine ⟨fun w => absurd ((nI_leI (b := 0) (by omega) (by decide)).mp w) (by omega), fun _ => ?_⟩
            rw [nI_pred, nI_clamp (by omega), m2_sr_same]
            have hx : g s.length = x := hs.1
            rw [hx, m2_si_sr]
            exact ⟨vp_in_nI (by omega) (by decide), go _ ⟨upd_at _ _ _, stk_up hs.2 (Nat.le_refl _)⟩⟩
      · rw [if_neg z] at go
        refine ⟨fun z2 => ?_, fun z2 => ?_⟩
        · rw [if_pos z2] at go
          obtain ⟨j, hj, ej, _⟩ := neg_ix z z2
          rw [ej, nI_clamp (by omega), nI_clamp (by omega), nI_1, m2_si_sr]
          have ek : (m2_sr μ kE_stack g).1 kE_known j = knE μ l[i] := by
            unfold knE
            rw [ej, nI_clamp (by omega)]
            rfl
          rw [ek]
          exact ⟨vp_in_nI (by omega) (by decide), vp_in_nI (by omega) (by decide), go _ ⟨upd_at _ _ _, stk_up hs (Nat.le_refl _)⟩⟩
        · rw [if_neg z2] at go
          rw [nI_clamp (by omega), nI_1, m2_si_sr]
          exact ⟨vp_in_nI (by omega) (by decide), go _ ⟨upd_at _ _ _, stk_up hs (Nat.le_refl _)⟩⟩
theorem cp_rp {g : Nat → Int32} {k : Nat} {env : Int32 → Int32} : ∀ (f m e a : Nat), m ≤ 5 → (cp g k f m e a).1 = true → (m ≤ 3 → ∀ s, ∃ v, rp env (cp g k f m e a).2.2 s = v :: s) ∧ (4 ≤ m → ∀ x s, ∃ v, rp env (cp g k f m e a).2.2 (x :: s) = v :: s) := by
  intro f
  induction f with
  | zero => intro m e a _ h; exact absurd h (by simp [cp])
  | succ f ih =>
    intro m e a hm h
    match m, hm with
    | 0, _ =>
      unfold cp at h ⊢
      simp only at h ⊢
      by_cases z : (cp g k f 1 e a).1 = true
      · rw [if_pos z] at h ⊢
        by_cases z2 : cp_h g k (cp g k f 1 e a).2.1 = 60 ∨ cp_h g k (cp g k f 1 e a).2.1 = 62 ∨ cp_h g k (cp g k f 1 e a).2.1 = 61
        · rw [if_pos z2] at h ⊢
          refine ⟨fun _ s => ?_, fun w => absurd w (by decide)⟩
          obtain ⟨v1, e1⟩ := (ih 1 e a (by decide) z).1 (by decide) s
          obtain ⟨v2, e2⟩ := (ih 1 e _ (by decide) h).1 (by decide) (v1 :: s)
          refine ⟨jnF (cp_h g k (cp g k f 1 e a).2.1) v1 v2, ?_⟩
          show rp env ((cp g k f 1 e a).2.2 ++ (cp g k f 1 e ((cp g k f 1 e a).2.1 + 1)).2.2 ++ [- cp_h g k (cp g k f 1 e a).2.1]) s = _
          rw [rp_app, rp_app, e1, e2, rp_jn (by rcases z2 with w | w | w <;> simp [w])]
        · rw [if_neg z2] at h ⊢
          exact ⟨fun _ s => (ih 1 e a (by decide) z).1 (by decide) s, fun w => absurd w (by decide)⟩
      · rw [if_neg z] at h
        exact absurd h z
    | 1, _ =>
      unfold cp at h ⊢
      simp only at h ⊢
      by_cases z : (cp g k f 2 e a).1 = true
      · rw [if_pos z] at h ⊢
        refine ⟨fun _ s => ?_, fun w => absurd w (by decide)⟩
        obtain ⟨v1, e1⟩ := (ih 2 e a (by decide) z).1 (by decide) s
        obtain ⟨v2, e2⟩ := (ih 4 e _ (by decide) h).2 (by decide) v1 s
        refine ⟨v2, ?_⟩
        show rp env ((cp g k f 2 e a).2.2 ++ (cp g k f 4 e (cp g k f 2 e a).2.1).2.2) s = _
        rw [rp_app, e1, e2]
      · rw [if_neg z] at h
        exact absurd h z
    | 2, _ =>
      unfold cp at h ⊢
      simp only at h ⊢
      by_cases z : (cp g k f 3 e a).1 = true
      · rw [if_pos z] at h ⊢
        refine ⟨fun _ s => ?_, fun w => absurd w (by decide)⟩
        obtain ⟨v1, e1⟩ := (ih 3 e a (by decide) z).1 (by decide) s
        obtain ⟨v2, e2⟩ := (ih 5 e _ (by decide) h).2 (by decide) v1 s
        refine ⟨v2, ?_⟩
        show rp env ((cp g k f 3 e a).2.2 ++ (cp g k f 5 e (cp g k f 3 e a).2.1).2.2) s = _
        rw [rp_app, e1, e2]
      · rw [if_neg z] at h
        exact absurd h z
    | 3, _ =>
      refine ⟨fun _ s => ?_, fun w => absurd w (by decide)⟩
      unfold cp at h ⊢
      simp only at h ⊢
      by_cases z : cp_h g k a = 45
      · rw [if_pos z] at h ⊢
        obtain ⟨v1, e1⟩ := (ih 3 e (a + 1) (by decide) h).1 (by decide) s
        refine ⟨-v1, ?_⟩
        show rp env ((cp g k f 3 e (a + 1)).2.2 ++ [-256]) s = _
        rw [rp_app, e1, rp_neg]
      · rw [if_neg z] at h ⊢
        by_cases z2 : cp_h g k a = 40 ∧ e < 4
        · rw [if_pos z2] at h ⊢
          by_cases z3 : (cp g k f 0 (e + 1) (a + 1)).1 = true
          · rw [if_pos z3] at h ⊢
            by_cases z4 : cp_h g k (cp g k f 0 (e + 1) (a + 1)).2.1 = 41
            · rw [if_pos z4]
              exact (ih 0 (e + 1) (a + 1) (by decide) z3).1 (by decide) s
            · rw [if_neg z4] at h
              exact absurd h (by simp)
          · rw [if_neg z3] at h
            exact absurd h z3
        · rw [if_neg z2] at h ⊢
          by_cases z3 : cp_dg (cp_h g k a) = true
          · rw [if_pos z3] at h ⊢
            obtain ⟨x, hx, ex⟩ := nH_val (hf := cp_h g k) 3 a 0 1 (by decide) (by decide)
            refine ⟨nI x, ?_⟩
            show rp env [(cp_nH (cp_h g k) 3 a 0).1] s = _
            have ex : (cp_nH (cp_h g k) 3 a 0).1 = nI x := ex
            rw [ex, rp_num (by omega)]
          · rw [if_neg z3] at h ⊢
            by_cases z4 : cp_nm (cp_h g k a) = 0
            · rw [if_pos z4] at h
              exact absurd h (by simp)
            · rw [if_neg z4]
              exact ⟨_, rp_nm z4⟩
    | 4, _ =>
      refine ⟨fun w => absurd w (by decide), fun _ x s => ?_⟩
      unfold cp at h ⊢
      simp only at h ⊢
      by_cases z : cp_h g k a = 43 ∨ cp_h g k a = 45
      · rw [if_pos z] at h ⊢
        by_cases z2 : (cp g k f 2 e (a + 1)).1 = true
        · rw [if_pos z2] at h ⊢
          obtain ⟨v1, e1⟩ := (ih 2 e (a + 1) (by decide) z2).1 (by decide) (x :: s)
          obtain ⟨v2, e2⟩ := (ih 4 e _ (by decide) h).2 (by decide) (jnF (cp_h g k a) x v1) s
          refine ⟨v2, ?_⟩
          show rp env ((cp g k f 2 e (a + 1)).2.2 ++ (- cp_h g k a) :: (cp g k f 4 e (cp g k f 2 e (a + 1)).2.1).2.2) (x :: s) = _
          have e3 := rp_jn (env := env) (c := cp_h g k a) (x := x) (y := v1) (s := s) (by rcases z with w | w <;> simp [w])
          have e4 : ∀ l, rp env ((- cp_h g k a) :: l) (v1 :: x :: s) = rp env l (rp env [- cp_h g k a] (v1 :: x :: s)) := fun l => rfl
          rw [rp_app, e1, e4, e3, e2]
        · rw [if_neg z2] at h
          exact absurd h z2
      · rw [if_neg z]
        exact ⟨x, rfl⟩
    | 5, _ =>
      refine ⟨fun w => absurd w (by decide), fun _ x s => ?_⟩
      unfold cp at h ⊢
      simp only at h ⊢
      by_cases z : cp_h g k a = 42
      · rw [if_pos z] at h ⊢
        by_cases z2 : (cp g k f 3 e (a + 1)).1 = true
        · rw [if_pos z2] at h ⊢
          obtain ⟨v1, e1⟩ := (ih 3 e (a + 1) (by decide) z2).1 (by decide) (x :: s)
          obtain ⟨v2, e2⟩ := (ih 5 e _ (by decide) h).2 (by decide) (jnF 42 x v1) s
          refine ⟨v2, ?_⟩
          show rp env ((cp g k f 3 e (a + 1)).2.2 ++ (- 42) :: (cp g k f 5 e (cp g k f 3 e (a + 1)).2.1).2.2) (x :: s) = _
          have e3 := rp_jn (env := env) (c := 42) (x := x) (y := v1) (s := s) (by decide)
          have e4 : ∀ l, rp env ((- 42) :: l) (v1 :: x :: s) = rp env l (rp env [- 42] (v1 :: x :: s)) := fun l => rfl
          rw [rp_app, e1, e4, e3, e2]
        · rw [if_neg z2] at h
          exact absurd h z2
      · rw [if_neg z]
        exact ⟨x, rfl⟩
theorem S_setGoer {D : Nat} (x y : Int32) (μ : m2M) : m2_MT D yX7_setGoer cX7_setGoer 3 none [.ref kE, .int x, .int y] μ (fun _ μ' => μ' = m2_si (m2_si μ kE_known 3 x) kE_known 4 y) := by
  refine m2_MT.intro (ls := [.ref kE, .int x, .int y]) (by decide +kernel) rfl (ble rfl) (fun κ hk => ?_)
  exact B_X7_setGoer_0 hk rfl
theorem S_setDoor {D : Nat} (x y z w : Int32) (μ : m2M) : m2_MT D yX7_setDoor cX7_setDoor 5 none [.ref kE, .int x, .int y, .int z, .int w] μ (fun _ μ' => μ' = m2_si (m2_si (m2_si (m2_si μ kE_known 0 x) kE_known 1 y) kE_known 2 (if z = 0 then 0 else 1)) kE_known 5 w) := by
  refine m2_MT.intro (ls := [.ref kE, .int x, .int y, .int z, .int w]) (by decide +kernel) rfl (ble rfl) (fun κ hk => ?_)
  exact B_X7_setDoor_0 hk rfl
def frE (μ μ' : m2M) : Prop := fr (fun c => (c == kE_known) || (c == kE_stack)) μ μ'
theorem frE.tr {μ ν ρ : m2M} (h1 : frE μ ν) (h2 : frE ν ρ) : frE μ ρ := fr.tr h1 h2
theorem frE.j {μ μ' : m2M} (h : frE μ μ') : jC μ μ' := by
  refine ⟨⟨fun c j hs => ?_, fun j => by rw [(h kC_row rfl).2], fun j => by rw [(h kM_row rfl).2]⟩, fr.mo h (fun c hc => ?_)⟩
  · cases e : ((c == kE_known) || (c == kE_stack)) with
    | false => rw [(h c e).1]
    | true =>
      rw [Bool.or_eq_true, beq_iff_eq, beq_iff_eq] at e
      rcases e with rfl | rfl <;> exact absurd hs (by simp [scr, Nat.ble])
  · cases e : ((c == kE_known) || (c == kE_stack)) with
    | false => rfl
    | true =>
      rw [Bool.or_eq_true, beq_iff_eq, beq_iff_eq] at e
      rcases e with rfl | rfl <;> cases hc
theorem S_setPrice {D n p q d : Nat} (hD : 1 ≤ D) (ν μ : m2M) (hR : RLn ν μ n p) (hq : q < p) (hd : d < n) : m2_MT D yX10_setPrice cX10_setPrice 3 none [.ref kW, .int (nI q), .int (nI d)] μ (fun _ μ' => frE μ μ' ∧ (((-6) ∈ prL ν → μ.1 kW_onWay d = nI (cnb (cwF ν n (nI q) d) p)) → rp (knE μ') (prL ν) [] = rp (prE ν n p q d) (prL ν) [])) := by
  obtain ⟨D, rfl⟩ : ∃ E, D = E + 1 := ⟨D - 1, by omega⟩
  have hn := hR.n20
  have hp := hR.p8
  obtain ⟨⟨a1, a2, a3, a4, a5, a6⟩, _⟩ := hR.1.2.2.2 d hd
  obtain ⟨⟨b1, b2, b3, b4, _⟩, _⟩ := hR.2.1.2.2.2 q hq
  refine m2_MT.intro (ls := [.ref kW, .int (nI q), .int (nI d)]) (by decide +kernel) rfl (ble rfl) (fun κ hk => ?_)
  refine B_X10_setPrice_0 hk ⟨vp_in_nI (by omega) (by decide), _, S_setGoer _ _ _, fun μ3 e3 => ⟨vp_in_nI (by omega) (by decide), _, S_setDoor _ _ _ _ _, fun μ12 e12 => ?_⟩⟩
  rw [nI_clamp (by omega)] at e12 e3
  have g3 : ∀ c, c ≠ kE_known → μ3.1 c = μ.1 c := fun c hc => by rw [e3, si_nc _ _ _ hc, si_nc _ _ _ hc]
  rw [g3 kD_left (by decide), g3 kD_lets (by decide), g3 kD_oneWay (by decide), g3 kW_onWay (by decide), a4, a5, a3] at e12
  rw [hR.2.2.2.2.2.2.1.1, b4] at e3
  subst e3
  have f12 : frE μ μ12 := by rw [e12]; exact fr_si rfl (fr_si rfl (fr_si rfl (fr_si rfl (fr_si rfl (fr_si rfl fr.rf)))))
  refine ⟨f12, fun hw => ?_⟩
  refine rp_congr _ _ (fun c hc h1 h2 => ?_)
  obtain ⟨j, hj, ej, ec⟩ := neg_ix h1 h2
  unfold knE
  rw [ej, nI_clamp (by omega), e12]
  rcases (show j = 0 ∨ j = 1 ∨ j = 2 ∨ j = 3 ∨ j = 4 ∨ j = 5 by omega) with rfl | rfl | rfl | rfl | rfl | rfl
  · rw [show c = -1 from by rw [ec]; decide]; rfl
  · rw [show c = -2 from by rw [ec]; decide]; rfl
  · rw [show c = -3 from by rw [ec]; decide]; rfl
  · rw [show c = -4 from by rw [ec]; decide]; rfl
  · rw [show c = -5 from by rw [ec]; decide]; rfl
  · have e6 : c = -6 := by rw [ec]; decide
    rw [e6] at hc
    rw [e6]
    exact hw hc
theorem S_workPrice {D n p q d : Nat} (hD : 1 ≤ D) (ν μ : m2M) (hR : RLn ν μ n p) (ee : rp (knE μ) (prL ν) [] = rp (prE ν n p q d) (prL ν) []) : m2_MT D yX7_workOut cX7_workOut 4 (some .int) [.ref kE] μ (fun r μ' => r = some (.int (prV ν n p q d)) ∧ frE μ μ') := by
  obtain ⟨k, x1, x2, x3, x4, x5, x6, x7, x8⟩ := hR.X
  refine m2_MT.mono (S_workOut (l := prL ν) hD μ x5 x6 x7 (fun hl => ?_)) (fun r μ' h => ?_)
  · have hk0 : k ≠ 0 := fun z => hl (x3.mp z)
    have h4 := x4 hk0
    have := (cp_rp (g := ν.1 kM_price) (k := k) (env := knE μ) 400 0 0 0 (by decide) (by rw [h4])).1 (by decide) []
    rw [h4] at this
    exact this
  · obtain ⟨e16, g, e17⟩ := h
    rw [ee] at e16
    exact ⟨e16, by rw [e17]; exact fr_sr rfl fr.rf⟩
theorem cnb_but {f : Nat → Bool} {q : Nat} : ∀ {p : Nat}, p ≤ 8 → q < p → cnb (fun j => !decide (nI j = nI q) && f j) p + (if f q = true then 1 else 0) = cnb f p
  | 0, _, h => absurd h (by omega)
  | p + 1, h8, h => by
    show cnb _ p + (if (!decide (nI p = nI q) && f p) = true then 1 else 0) + _ = cnb f p + (if f p = true then 1 else 0)
    by_cases e : q = p
    · subst e
      have : cnb (fun j => !decide (nI j = nI q) && f j) q = cnb f q := cnb_congr (fun i hi => by
        have : ¬ nI i = nI q := fun z => by have := (nI_eq (by omega) (by omega)).mp z; omega
        simp [this])
      rw [this]
      simp
    · have ih := cnb_but (f := f) (q := q) (p := p) (by omega) (by omega)
      have : ¬ nI p = nI q := fun z => e ((nI_eq (by omega) (by omega)).mp z).symm
      have e2 : (!decide (nI p = nI q) && f p) = f p := by simp [this]
      rw [e2]
      omega
def frQ (μ μ' : m2M) : Prop := fr (fun c => c == kM) μ μ' ∧ ∀ j, j < 23 ∨ (27 < j ∧ j ≠ 30 ∧ j ≠ 31) → μ'.1 kM j = μ.1 kM j
theorem frQ.rf {μ : m2M} : frQ μ μ := ⟨fr.rf, fun _ _ => rfl⟩
theorem frQ.tr {μ ν ρ : m2M} (h1 : frQ μ ν) (h2 : frQ ν ρ) : frQ μ ρ := ⟨h1.1.tr h2.1, fun j hj => (h2.2 j hj).trans (h1.2 j hj)⟩
theorem frQ.si {μ μ' : m2M} {j : Nat} {x : Int32} (h : frQ μ μ') (hj : 23 ≤ j ∧ (j ≤ 27 ∨ j = 30 ∨ j = 31)) : frQ μ (m2_si μ' kM j x) := ⟨fr_si rfl h.1, fun i hi => by rw [si_nj _ _ _ (by omega)]; exact h.2 i hi⟩
theorem frQ.j {μ μ' : m2M} (h : frQ μ μ') : jM μ μ' := by
  refine ⟨⟨fun c j hs => ?_, fun j => by rw [(h.1 kC_row rfl).2], fun j => by rw [(h.1 kM_row rfl).2]⟩, fr.mo h.1 (fun c hc => ?_), fun j hj => h.2 j ?_⟩
  · by_cases e : c = kM
    · subst e
      refine h.2 j ?_
      apply Classical.byContradiction
      intro z
      rcases (show j = 23 ∨ j = 24 ∨ j = 25 ∨ j = 26 ∨ j = 27 ∨ j = 30 ∨ j = 31 by omega) with rfl | rfl | rfl | rfl | rfl | rfl | rfl <;> exact absurd hs (by decide)
    · rw [(h.1 c (by simp [e])).1]
  · by_cases e : c = kM
    · subst e; cases hc
    · simp [e]
  · apply Classical.byContradiction
    intro z
    rcases (show j = 23 ∨ j = 24 ∨ j = 25 ∨ j = 26 ∨ j = 27 ∨ j = 30 ∨ j = 31 by omega) with rfl | rfl | rfl | rfl | rfl | rfl | rfl <;> cases hj
theorem S_priceOf {D n p q d : Nat} (hD : 404 ≤ D) (ν μ μ0 : m2M) (hR : RLn ν μ0 n p) (hv : vM ν μ) (hq : q < p) (hd : d < n) (ho : prL ν ≠ [] → μ.1 kM_isOnWay d = bts (fun q => wwB ν n q d) p ∧ μ.1 kM_onTheirWay d = nI (cnb (fun q => wwB ν n q d) p)) : m2_MT D yX12_priceOf cX12_priceOf 4 (some .int) [.ref kM, .int (nI q), .int (nI d)] μ (fun r μ' => r = some (.int (prV ν n p q d)) ∧ frQ μ μ') := by
  obtain ⟨D, rfl⟩ : ∃ E, D = E + 1 := ⟨D - 1, by omega⟩
  have hn := hR.n20
  have hp := hR.p8
  obtain ⟨k, x1, x2, x3, x4, x5, x6, x7, x8⟩ := hR.X
  refine m2_MT.intro (ls := [.ref kM, .int (nI q), .int (nI d), .null]) (by decide +kernel) rfl (ble rfl) (fun κ hk => ?_)
  refine B_X12_priceOf_0 hk (Nat.zero_le _) ?_
  rw [hv.1 kM 29 rfl rfl, x2]
  by_cases hk0 : k = 0
  · subst hk0
    refine ⟨fun z => absurd rfl z, fun _ => ⟨?_, frQ.rf⟩⟩
    unfold prV
    rw [if_pos (x3.mp rfl)]
  · refine ⟨fun _ => ?_, fun z => absurd z (nI_ne0 (by omega) (by omega))⟩
    have h4 := x4 hk0
    have ho := ho (fun z => hk0 (x3.mpr z))
    refine ⟨fun _ μ' => μ' = m2_si (m2_si (m2_si (m2_si (m2_si μ kM 23 (nI kM_price)) kM 24 (nI k)) kM 25 40) kM 26 0) kM 27 (-1), ?_, fun μ3 e3 => ?_⟩
    · refine m2_MT.intro (ls := [.ref kM, .ref kM_price, .int (nI k), .int 40]) (by decide +kernel) rfl (ble rfl) (fun κ hk => ?_)
      exact B_X12_begin_0 hk (cB := kM_price) (by decide) rfl
    · have fq : frQ μ (m2_si (m2_si μ3 kM 30 (nI d)) kM 31 (nI q)) := by
        rw [e3]
        exact (((((((frQ.rf).si (by omega)).si (by omega)).si (by omega)).si (by omega)).si (by omega)).si (by omega)).si (by omega)
      generalize hM : m2_si (m2_si μ3 kM 30 (nI d)) kM 31 (nI q) = M at fq
      have m30 : M.1 kM 30 = nI d := by rw [← hM]; rfl
      have m31 : M.1 kM 31 = nI q := by rw [← hM]; rfl
      have m23 : M.1 kM 23 = nI kM_price := by rw [← hM, e3]; rfl
      have m24 : M.1 kM 24 = nI k := by rw [← hM, e3]; rfl
      have m25 : M.1 kM 25 = nI 40 := by rw [← hM, e3]; rfl
      have m26 : M.1 kM 26 = nI 0 := by rw [← hM, e3]; rfl
      have m27 : M.1 kM 27 = -1 := by rw [← hM, e3]; rfl
      have eM : ps M 0 (-1) = M := by
        unfold ps
        rw [m2_si_id m26, m2_si_id m27]
      have hvM : vM ν M := fq.j.v hv
      have gM : ∀ c, c ≠ kM → M.1 c = μ.1 c := fun c hc => (fq.1 c (by simp [hc])).1
      have eP : M.1 kM_price = ν.1 kM_price := funext fun j => hvM.1 kM_price j rfl rfl
      have hE : evQ M (prE ν n p q d) := by
        refine Or.inr ⟨d, q, m30, by omega, m31, by omega, ?_, ?_, ?_, ?_, ?_, ?_⟩
        · exact (hvM.1 kM_left d rfl rfl).symm
        · exact (hvM.1 kM_lets d rfl rfl).symm
        · rw [hvM.1 kM_isOneWay d rfl rfl]; rfl
        · exact (hvM.1 kM 16 rfl rfl).symm
        · exact (hvM.1 kM_worth q rfl rfl).symm
        · rw [gM kM_onTheirWay (by decide), gM kM_isOnWay (by decide), ho.1, ho.2]
          have hb := cnb_but (f := fun q => wwB ν n q d) (q := q) (p := p) hp hq
          have hh : fX12_has (bts (fun q => wwB ν n q d) p) (nI q) = 1 ↔ wwB ν n q d = true := by
            rw [has_iff (by omega), bts_get _ _ (by omega)]
            simp [hq]
          show nI (cnb (cwF ν n (nI q) d) p) = _
          have e1 : cnb (cwF ν n (nI q) d) p = cnb (fun j => !decide (nI j = nI q) && (fun q => wwB ν n q d) j) p := rfl
          rw [e1]
          by_cases z : wwB ν n q d = true
          · rw [if_pos (hh.mpr z)]
            rw [if_pos z] at hb
            rw [← hb, show (1 : Int32) = nI 1 from rfl, ← nI_add, Int32.add_sub_cancel]
          · rw [if_neg (fun w => z (hh.mp w))]
            rw [if_neg z] at hb
            rw [← hb, Nat.add_zero]
            simp
      have key := (S_pr (k := k) (g := ν.1 kM_price) (env := prE ν n p q d) M ⟨⟨m24, by omega, m25, by omega⟩, Or.inr ⟨m23, eP.symm, rfl⟩⟩ hE 400).1 D 0 0 (by omega) (by omega) (by omega) (Or.inl (by rw [h4]))
      rw [eM, h4] at key
      refine ⟨_, key, fun y7 μ8 r8 => ?_⟩
      obtain ⟨v, ev, r8⟩ := r8
      cases ev
      rcases r8 with ⟨_, t2, t3⟩ | ⟨t1, _⟩
      · have t3 := t3 []
        refine ⟨?_, ?_⟩
        · unfold prV
          have t3 : rp (prE ν n p q d) (prL ν) [] = y7 :: [] := t3
          rw [if_neg (fun z => hk0 (x3.mpr z)), t3]
          rfl
        · rw [t2]
          exact (fq.si (by omega)).si (by omega)
      · exact absurd t1 (by simp)
theorem T_priced {D : Nat} (hD : 405 ≤ D) (x y : Int32) (μ : m2M) (h : REL μ) : stp D yX11_priced cX11_priced 3 (some .int) yX12_priced cX12_priced 3 (some .int) [.int x, .int y] μ REL := by
  obtain ⟨D, rfl⟩ : ∃ E, D = E + 1 := ⟨D - 1, by omega⟩
  obtain ⟨n, p, hR⟩ := id h
  have hR : RLn μ μ n p := hR
  have hn := hR.n20
  have hp := hR.p8
  by_cases ok : in_ p x ∧ in_ n y
  · obtain ⟨⟨q, hq, rfl⟩, d, hd, rfl⟩ := ok
    refine T_of (some (.int (prV μ n p q d))) μ ?_ (fun ν hv => ?_)
    · refine m2_MT.intro (ls := [.ref kC, .int (nI q), .int (nI d)]) (by decide +kernel) rfl (ble rfl) (fun κ hk => ?_)
      refine B_X11_priced_0 hk (Nat.zero_le _) ⟨fun _ => ⟨fun _ => ⟨_, S_countWays (by omega) (nI q) μ μ hR, fun μ10 r10 => ?_⟩, fun z => absurd ((fX0_has_iff hR.1.1 hn).mpr ⟨d, hd, rfl⟩) z⟩, fun z => absurd ((fX6_has_iff hR.2.1.1 hp).mpr ⟨q, hq, rfl⟩) z⟩
      have hR10 := r10.1.j.R hR
      refine ⟨_, S_setPrice (by omega) μ μ10 hR10 hq hd, fun μ15 r15 => ?_⟩
      obtain ⟨f15, e15⟩ := r15
      refine ⟨_, S_workPrice (q := q) (d := d) (by omega) μ μ15 (f15.j.R hR10) (e15 (fun _ => (r10.2 d hd).1)), fun y19 μ20 r20 => ?_⟩
      obtain ⟨e19, f20⟩ := r20
      cases e19
      have j15 : jC μ10 μ20 := frE.j (f15.tr f20)
      exact ⟨rfl, (j15.R hR10).r, (r10.1.j.tr j15).2.c⟩
    · have hv' := hv.thr
      have f1 : frM ν (m2_si ν kM 22 0) := fr_si rfl fr.rf
      have g7 : ν.1 kM 7 = nI p := (hv.1 kM 7 rfl rfl).trans hR.2.1.2.1
      have g0 : ν.1 kM 0 = nI n := (hv.1 kM 0 rfl rfl).trans hR.1.2.1
      refine m2_MT.intro (ls := [.ref kM, .int (nI q), .int (nI d)]) (by decide +kernel) rfl (ble rfl) (fun κ hk => ?_)
      refine B_X12_priced_0 hk (by omega) ⟨fun _ => ⟨fun _ => ⟨_, S_findTheirWays (by omega) μ _ μ hR hv', fun μ10 r10 => ?_⟩, fun z => absurd ((fX12_isDoor_iff (μ := m2_si ν kM 22 0) g0 hn).mpr ⟨d, hd, rfl⟩) z⟩, fun z => absurd ((fX12_isOne_iff (μ := m2_si ν kM 22 0) g7 hp).mpr ⟨q, hq, rfl⟩) z⟩
      have hv10 := r10.1.v hv'
      refine ⟨_, S_priceOf (by omega) μ μ10 μ hR hv10 hq hd (fun _ => r10.2 d hd), fun y14 μ15 r15 => ?_⟩
      obtain ⟨e14, f15⟩ := r15
      cases e14
      exact ⟨rfl, f15.j.v hv10, (f1.tr r10.1.2.m).tr f15.j.2.m⟩
  · refine T_of (some (.int (-1))) μ ?_ (fun ν hv => ?_)
    · refine m2_MT.intro (ls := [.ref kC, .int x, .int y]) (by decide +kernel) rfl (ble rfl) (fun κ hk => ?_)
      exact B_X11_priced_0 hk (Nat.zero_le _) ⟨fun z => ⟨fun z2 => absurd ⟨(fX6_has_iff hR.2.1.1 hp).mp z, (fX0_has_iff hR.1.1 hn).mp z2⟩ ok, fun _ => ⟨rfl, h, fr.rf⟩⟩, fun _ => ⟨rfl, h, fr.rf⟩⟩
    · have fin : (some (Value.int (-1)) = some (Value.int (-1)) ∧ vM μ (m2_si ν kM 22 0) ∧ frM ν (m2_si ν kM 22 0)) := ⟨rfl, hv.thr, fr_si rfl fr.rf⟩
      have g7 : ν.1 kM 7 = nI p := (hv.1 kM 7 rfl rfl).trans hR.2.1.2.1
      have g0 : ν.1 kM 0 = nI n := (hv.1 kM 0 rfl rfl).trans hR.1.2.1
      refine m2_MT.intro (ls := [.ref kM, .int x, .int y]) (by decide +kernel) rfl (ble rfl) (fun κ hk => ?_)
      exact B_X12_priced_0 hk (by omega) ⟨fun z => ⟨fun z2 => absurd ⟨(fX12_isOne_iff (μ := m2_si ν kM 22 0) g7 hp).mp z, (fX12_isDoor_iff (μ := m2_si ν kM 22 0) g0 hn).mp z2⟩ ok, fun _ => fin⟩, fun _ => fin⟩
