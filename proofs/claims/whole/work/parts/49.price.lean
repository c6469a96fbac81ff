/-! the reference's held, sum, product, thing -/
def evQ (μ0 : m2M) (env : Int32 → Int32) : Prop := (μ0.1 kM 30 = -1 ∧ ∀ c, env c = 0) ∨ (∃ d q : Nat, μ0.1 kM 30 = nI d ∧ d < 20 ∧ μ0.1 kM 31 = nI q ∧ q < 8 ∧ env (-1) = μ0.1 kM_left d ∧ env (-2) = μ0.1 kM_lets d ∧ env (-3) = (if μ0.1 kM_isOneWay d = 0 then 0 else 1) ∧ env (-4) = μ0.1 kM 16 ∧ env (-5) = μ0.1 kM_worth q ∧ env (-6) = μ0.1 kM_onTheirWay d - (if fX12_has (μ0.1 kM_isOnWay d) (nI q) = 1 then 1 else 0))
def outP (μ0 : m2M) (env : Int32 → Int32) (r : Bool × Nat × List Int32) (v0 : List Int32) (ret : Option Value) (μ' : m2M) : Prop := ∃ v : Int32, ret = some (.int v) ∧ ((r.1 = true ∧ μ' = ps μ0 r.2.1 (-1) ∧ ∀ s, rp env r.2.2 (v0 ++ s) = v :: s) ∨ (r.1 = false ∧ μ' = ps μ0 r.2.1 (nI r.2.1) ∧ r.2.1 ≤ 40))
theorem nmcases {c : Int32} (h : cp_nm c ≠ 0) : (c = 108 ∧ cp_nm c = -1) ∨ (c = 109 ∧ cp_nm c = -2) ∨ (c = 111 ∧ cp_nm c = -3) ∨ (c = 104 ∧ cp_nm c = -4) ∨ (c = 119 ∧ cp_nm c = -5) ∨ (c = 107 ∧ cp_nm c = -6) := by
  unfold cp_nm at h ⊢
  by_cases h1 : c = 108
  · left; exact ⟨h1, by rw [if_pos h1]⟩
  · rw [if_neg h1] at h ⊢
    right
    by_cases h2 : c = 109
    · left; exact ⟨h2, by rw [if_pos h2]⟩
    · rw [if_neg h2] at h ⊢
      right
      by_cases h3 : c = 111
      · left; exact ⟨h3, by rw [if_pos h3]⟩
      · rw [if_neg h3] at h ⊢
        right
        by_cases h4 : c = 104
        · left; exact ⟨h4, by rw [if_pos h4]⟩
        · rw [if_neg h4] at h ⊢
          right
          by_cases h5 : c = 119
          · left; exact ⟨h5, by rw [if_pos h5]⟩
          · rw [if_neg h5] at h ⊢
            right
            by_cases h6 : c = 107
            · exact ⟨h6, by rw [if_pos h6]⟩
            · rw [if_neg h6] at h
              exact absurd rfl h
theorem K_name {κ : Nat → List Value → List Value → m2M → Prop} {D a : Nat} {Q : Option Value → m2M → Prop} {env : Int32 → Int32} {v1 c : Int32} (hk : m2_RL κ cX12_thing RX12 4 (D + 1) (some .int) Q) (μ0 : m2M) (hE : evQ μ0 env) (hc : cp_nm c ≠ 0) (hq : Q (some (.int (env (cp_nm c)))) (ps μ0 (a + 1) (-1))) : κ 133 [.ref kM, .int v1, .int c, .null] [] (ps μ0 a (-1)) := by
  refine B_X12_thing_133 hk (Nat.zero_le _) ?_
  have e26 : m2_si (ps μ0 a (-1)) kM 26 ((ps μ0 a (-1)).1 kM 26 + 1) = ps μ0 (a + 1) (-1) := by
    rw [show (ps μ0 a (-1)).1 kM 26 = nI a from rfl, nI_1, ps_26]
  rw [e26]
  have e30 : (ps μ0 a (-1)).1 kM 30 = μ0.1 kM 30 := rfl
  have e31 : (ps μ0 a (-1)).1 kM 31 = μ0.1 kM 31 := rfl
  have e16 : (ps μ0 a (-1)).1 kM 16 = μ0.1 kM 16 := rfl
  rw [e30, e31, e16]
  rcases hE with ⟨h1, h2⟩ | ⟨d, q, h1, hd, h2, hq8, g1, g2, g3, g4, g5, g6⟩
  · rw [h1]
    rw [h2] at hq
    exact ⟨fun z => absurd rfl z, fun _ => hq⟩
  · rw [h1, h2, nI_clamp (by omega), nI_clamp (by omega)]
    have hin : vp_in (nI d) 20 := vp_in_nI hd (by decide)
    have hin8 : vp_in (nI q) 8 := vp_in_nI hq8 (by decide)
    refine ⟨fun _ => ?_, fun z => absurd z (nI_ne_m1 (by omega))⟩
    rcases nmcases hc with ⟨rfl, e⟩ | ⟨rfl, e⟩ | ⟨rfl, e⟩ | ⟨rfl, e⟩ | ⟨rfl, e⟩ | ⟨rfl, e⟩
    · rw [e, g1] at hq
      exact ⟨fun z => absurd rfl z, fun _ => ⟨hin, hq⟩⟩
    · rw [e, g2] at hq
      exact ⟨fun _ => ⟨fun z => absurd rfl z, fun _ => ⟨hin, hq⟩⟩, fun z => absurd z (by decide)⟩
    · rw [e, g3] at hq
      exact ⟨fun _ => ⟨fun _ => ⟨fun z => absurd rfl z, fun _ => ⟨hin, hq⟩⟩, fun z => absurd z (by decide)⟩, fun z => absurd z (by decide)⟩
    · rw [e, g4] at hq
      exact ⟨fun _ => ⟨fun _ => ⟨fun _ => ⟨fun z => absurd rfl z, fun _ => hq⟩, fun z => absurd z (by decide)⟩, fun z => absurd z (by decide)⟩, fun z => absurd z (by decide)⟩
    · rw [e, g5] at hq
      exact ⟨fun _ => ⟨fun _ => ⟨fun _ => ⟨fun _ => ⟨fun z => absurd rfl z, fun _ => ⟨hin8, hq⟩⟩, fun z => absurd z (by decide)⟩, fun z => absurd z (by decide)⟩, fun z => absurd z (by decide)⟩, fun z => absurd z (by decide)⟩
    · rw [e, g6] at hq
      refine ⟨fun _ => ⟨fun _ => ⟨fun _ => ⟨fun _ => ⟨fun _ => ⟨hin, fun z => ?_, fun z => ?_⟩, fun z => absurd z (by decide)⟩, fun z => absurd z (by decide)⟩, fun z => absurd z (by decide)⟩, fun z => absurd z (by decide)⟩, fun z => absurd z (by decide)⟩
      · rw [if_pos (show fX12_has (μ0.1 kM_isOnWay d) (nI q) = 1 from z)] at hq; exact hq
      · rw [if_neg (show ¬ fX12_has (μ0.1 kM_isOnWay d) (nI q) = 1 from z)] at hq; exact hq
/-- a row that joins: what it does to the stack -/
theorem rp_jn {env : Int32 → Int32} {c x y : Int32} {s : List Int32} (h : c = 43 ∨ c = 45 ∨ c = 60 ∨ c = 61 ∨ c = 62 ∨ c = 42) : rp env [- c] (y :: x :: s) = jnF c x y :: s := by
  show stF env (- c) (y :: x :: s) = _
  unfold stF
  have e1 : - c < -6 ∧ - c ≠ -256 ∧ - - c = c := by rcases h with rfl | rfl | rfl | rfl | rfl | rfl <;> decide
  rw [if_pos e1.1, if_neg e1.2.1, e1.2.2]
theorem rp_neg {env : Int32 → Int32} {x : Int32} {s : List Int32} : rp env [-256] (x :: s) = (-x) :: s := by
  show stF env (-256) (x :: s) = _
  unfold stF
  rw [if_pos (by decide), if_pos rfl]
theorem rp_nm {env : Int32 → Int32} {c : Int32} {s : List Int32} (h : cp_nm c ≠ 0) : rp env [cp_nm c] s = env (cp_nm c) :: s := by
  show stF env (cp_nm c) s = _
  unfold stF
  have e1 : ¬ cp_nm c < -6 ∧ cp_nm c < 0 := by
    rcases nmcases h with ⟨_, e⟩ | ⟨_, e⟩ | ⟨_, e⟩ | ⟨_, e⟩ | ⟨_, e⟩ | ⟨_, e⟩ <;> rw [e] <;> decide
  rw [if_neg e1.1, if_pos e1.2]
/-- a number of three digits is at most 999 -/
theorem dg_val {c : Int32} (h : cp_dg c = true) : ∃ x : Nat, x < 10 ∧ c = nI (48 + x) := by
  unfold cp_dg at h
  obtain ⟨h1, h2⟩ := of_decide_eq_true h
  obtain ⟨j, hj, rfl⟩ := nI_of (x := c) (by
    intro z
    rw [Int32.lt_iff_toInt_lt] at z
    rw [Int32.le_iff_toInt_le] at h1
    have : (48 : Int32).toInt = 48 := by decide
    have : (0 : Int32).toInt = 0 := by decide
    omega)
  have a1 := (nI_leI (a := 48) (b := j) (by decide) hj).mp h1
  have a2 := (nI_leI (a := j) (b := 57) hj (by decide)).mp h2
  exact ⟨j - 48, by omega, by rw [show 48 + (j - 48) = j by omega]⟩
theorem nH_val {hf : Nat → Int32} : ∀ (j a v m : Nat), v < m → m * 10 ^ j < 2 ^ 31 → ∃ x : Nat, x < m * 10 ^ j ∧ (cp_nH hf j a (nI v)).1 = nI x
  | 0, a, v, m, hv, hm => ⟨v, by simpa using hv, rfl⟩
  | j + 1, a, v, m, hv, hm => by
    unfold cp_nH
    have e10 : m * 10 ^ (j + 1) = m * 10 * 10 ^ j := by rw [Nat.pow_succ, Nat.mul_comm (10 ^ j) 10, Nat.mul_assoc]
    have hp : 0 < 10 ^ j := Nat.pow_pos (by decide)
    by_cases z : cp_dg (hf a) = true
    · rw [if_pos z]
      obtain ⟨x, hx, e⟩ := dg_val z
      have e2 : (10 : Int32) * nI v + hf a - 48 = nI (10 * v + x) := by
        rw [e, show (10 : Int32) = nI 10 from rfl, pk_mul, nI_add, show (48 : Int32) = nI 48 from rfl, show 10 * v + (48 + x) = (10 * v + x) + 48 by omega, ← nI_add, Int32.add_sub_cancel]
      rw [e2, e10]
      exact nH_val j (a + 1) (10 * v + x) (m * 10) (by omega) (by rw [← e10]; exact hm)
    · rw [if_neg z]
      refine ⟨v, ?_, rfl⟩
      have : m * 1 ≤ m * 10 ^ (j + 1) := Nat.mul_le_mul_left m (Nat.pow_pos (by decide))
      omega
theorem rp_num {env : Int32 → Int32} {x : Nat} {s : List Int32} (h : x < 2 ^ 31) : rp env [nI x] s = nI x :: s := by
  show stF env (nI x) s = _
  unfold stF
  have h1 : ¬ nI x < 0 := nI_pos h
  have h2 : ¬ nI x < -6 := by
    intro z
    rw [Int32.lt_iff_toInt_lt, nI_toInt h] at z
    have : (-6 : Int32).toInt = -6 := by decide
    omega
  rw [if_neg h2, if_neg h1]
set_option maxHeartbeats 4000000 in
theorem S_pr {k : Nat} {g : Nat → Int32} {env : Int32 → Int32} (μ0 : m2M) (hr : rdC μ0 g k 40) (hE : evQ μ0 env) : ∀ f : Nat,
    (∀ D e a : Nat, f + 3 ≤ D → e ≤ 4 → a ≤ 40 → ((cp g k f 0 e a).1 = true ∨ cp_Bd 0 a ≤ f) → m2_MT D yX12_held cX12_held 3 (some .int) [.ref kM, .int (nI e)] (ps μ0 a (-1)) (outP μ0 env (cp g k f 0 e a) [])) ∧
    (∀ D e a : Nat, f + 3 ≤ D → e ≤ 4 → a ≤ 40 → ((cp g k f 1 e a).1 = true ∨ cp_Bd 1 a ≤ f) → m2_MT D yX12_sum cX12_sum 5 (some .int) [.ref kM, .int (nI e)] (ps μ0 a (-1)) (outP μ0 env (cp g k f 1 e a) [])) ∧
    (∀ D e a : Nat, f + 3 ≤ D → e ≤ 4 → a ≤ 40 → ((cp g k f 2 e a).1 = true ∨ cp_Bd 2 a ≤ f) → m2_MT D yX12_product cX12_product 3 (some .int) [.ref kM, .int (nI e)] (ps μ0 a (-1)) (outP μ0 env (cp g k f 2 e a) [])) ∧
    (∀ D e a : Nat, f + 3 ≤ D → e ≤ 4 → a ≤ 40 → ((cp g k f 3 e a).1 = true ∨ cp_Bd 3 a ≤ f) → m2_MT D yX12_thing cX12_thing 4 (some .int) [.ref kM, .int (nI e)] (ps μ0 a (-1)) (outP μ0 env (cp g k f 3 e a) [])) ∧
    (∀ D e a : Nat, f + 2 ≤ D → e ≤ 4 → a ≤ 40 → ((cp g k f 4 e a).1 = true ∨ cp_Bd 4 a ≤ f) → ∀ (v : Int32) (κ : Nat → List Value → List Value → m2M → Prop) (Q : Option Value → m2M → Prop), m2_RL κ cX12_sum RX12 5 (D + 1) (some .int) Q → (∀ ret μ', outP μ0 env (cp g k f 4 e a) [v] ret μ' → Q ret μ') → κ 6 [.ref kM, .int (nI e), .int v, .null, .null] [] (ps μ0 a (-1))) ∧
    (∀ D e a : Nat, f + 2 ≤ D → e ≤ 4 → a ≤ 40 → ((cp g k f 5 e a).1 = true ∨ cp_Bd 5 a ≤ f) → ∀ (v : Int32) (κ : Nat → List Value → List Value → m2M → Prop) (Q : Option Value → m2M → Prop), m2_RL κ cX12_product RX12 3 (D + 1) (some .int) Q → (∀ ret μ', outP μ0 env (cp g k f 5 e a) [v] ret μ' → Q ret μ') → κ 6 [.ref kM, .int (nI e), .int v] [] (ps μ0 a (-1))) := by
  have ne1 : ∀ b : Nat, b ≤ 40 → nI b ≠ -1 := fun b hb => nI_ne_m1 (by omega)
  intro f
  induction f with
  | zero =>
    refine ⟨?_, ?_, ?_, ?_, ?_, ?_⟩
    all_goals
      intro D e a _ _ ha h
      rcases h with h | h
      · exact absurd h (by simp [cp])
      · exact absurd h (by unfold cp_Bd cp_rk; simp)
  | succ f ih =>
    obtain ⟨ih0, ih1, ih2, ih3, ih4, ih5⟩ := ih
    refine ⟨?_, ?_, ?_, ?_, ?_, ?_⟩
    · -- held
      intro D e a hD he ha hb
      obtain ⟨D, rfl⟩ : ∃ E, D = E + 1 := ⟨D - 1, by omega⟩
      refine m2_MT.intro (ls := [.ref kM, .int (nI e), .null]) (by decide +kernel) rfl (ble rfl) (fun κ hk => ?_)
      generalize hR : cp g k (f + 1) 0 e a = R at hk hb
      unfold cp at hR
      simp only at hR
      have b1 : (cp g k f 1 e a).1 = true ∨ cp_Bd 1 a ≤ f := by
        by_cases z : (cp g k f 1 e a).1 = true
        · exact Or.inl z
        · rw [if_neg z] at hR
          rcases hb with hb | hb
          · rw [← hR] at hb; exact absurd hb z
          · right; simp only [cp_Bd, cp_rk] at hb ⊢; omega
      refine B_X12_held_0 hk ⟨_, ih1 D e a (by omega) he ha b1, fun y1 μ2 r2 => ?_⟩
      obtain ⟨v, ev, r2⟩ := r2
      cases ev
      rcases r2 with ⟨t1, t2, t3⟩ | ⟨t1, t2, t3⟩
      · rw [if_pos t1] at hR
        obtain ⟨p1, p2, p3⟩ := cp_pos f 1 e a ha (by decide) t1
        have p3 := p3 (by decide)
        generalize hr1 : cp g k f 1 e a = r1 at hR t1 t2 t3 p1 p2 p3
        subst t2
        -- the second sum
        have snd : ∀ c : Int32, (c = 60 ∨ c = 62 ∨ c = 61) → cp_h g k r1.2.1 = c → ∃ Q40 : Option Value → m2M → Prop, m2_MT D yX12_sum cX12_sum 5 (some .int) [.ref kM, .int (nI e)] (ps μ0 (r1.2.1 + 1) (-1)) Q40 ∧ ∀ (y38 : Int32) (μ39 : m2M), Q40 (some (.int y38)) μ39 → outP μ0 env R [] (some (.int (jnF c y1 y38))) μ39 := by
          intro c hc hh
          have hlt : r1.2.1 < 40 := by
            rcases hc with rfl | rfl | rfl <;> exact h_lt hh (by decide)
          have hc2 : cp_h g k r1.2.1 = 60 ∨ cp_h g k r1.2.1 = 62 ∨ cp_h g k r1.2.1 = 61 := by rw [hh]; exact hc
          rw [if_pos hc2] at hR
          have b2 : (cp g k f 1 e (r1.2.1 + 1)).1 = true ∨ cp_Bd 1 (r1.2.1 + 1) ≤ f := by
            rcases hb with hb | hb
            · rw [← hR] at hb; exact Or.inl hb
            · right; simp only [cp_Bd, cp_rk] at hb ⊢; omega
          refine ⟨_, ih1 D e (r1.2.1 + 1) (by omega) he (by omega) b2, fun y38 μ39 r39 => ?_⟩
          obtain ⟨v', ev', r39⟩ := r39
          cases ev'
          refine ⟨_, rfl, ?_⟩
          rw [← hR]
          rcases r39 with ⟨u1, u2, u3⟩ | ⟨u1, u2, u3⟩
          · left
            refine ⟨u1, u2, fun s => ?_⟩
            show rp env (r1.2.2 ++ (cp g k f 1 e (r1.2.1 + 1)).2.2 ++ [- cp_h g k r1.2.1]) ([] ++ s) = _
            rw [rp_app, rp_app, List.nil_append, show rp env r1.2.2 s = y1 :: s from t3 s, show rp env (cp g k f 1 e (r1.2.1 + 1)).2.2 (y1 :: s) = y38 :: y1 :: s from u3 (y1 :: s), hh]
            exact rp_jn (by rcases hc with rfl | rfl | rfl <;> decide)
          · right
            exact ⟨u1, u2, u3⟩
        refine ⟨_, S_passes (w := -1) (c := 60) (by omega) μ0 hr (by omega), fun y6 μ7 r7 => ?_⟩
        rcases r7 with ⟨_, c2, c3, c4⟩ | ⟨c1, c3, c4⟩
        · cases c3
          subst c4
          refine ⟨fun q => absurd q (by decide), fun _ => ?_⟩
          obtain ⟨Q40, m40, k40⟩ := snd 60 (Or.inl rfl) c2
          refine ⟨Q40, m40, fun y38 μ39 q39 => ?_⟩
          have := k40 y38 μ39 q39
          exact this
        · cases c3
          subst c4
          refine ⟨fun _ => ⟨_, S_passes (w := -1) (c := 62) (by omega) μ0 hr (by omega), fun y12 μ13 r13 => ?_⟩, fun q => absurd rfl q⟩
          rcases r13 with ⟨_, d2, d3, d4⟩ | ⟨d1, d3, d4⟩
          · cases d3
            subst d4
            refine ⟨fun q => absurd q (by decide), fun _ => ?_⟩
            obtain ⟨Q40, m40, k40⟩ := snd 62 (Or.inr (Or.inl rfl)) d2
            exact ⟨Q40, m40, fun y38 μ39 q39 => k40 y38 μ39 q39⟩
          · cases d3
            subst d4
            refine ⟨fun _ => ⟨_, S_passes (w := -1) (c := 61) (by omega) μ0 hr (by omega), fun y18 μ19 r19 => ?_⟩, fun q => absurd rfl q⟩
            rcases r19 with ⟨_, e2, e3, e4⟩ | ⟨e1, e3, e4⟩
            · cases e3
              subst e4
              refine ⟨fun q => absurd q (by decide), fun _ => ?_⟩
              obtain ⟨Q40, m40, k40⟩ := snd 61 (Or.inr (Or.inr rfl)) e2
              exact ⟨Q40, m40, fun y38 μ39 q39 => k40 y38 μ39 q39⟩
            · cases e3
              subst e4
              refine ⟨fun _ => ?_, fun q => absurd rfl q⟩
              rw [if_neg (by rintro (w | w | w); exact c1 ⟨rfl, w⟩; exact d1 ⟨rfl, w⟩; exact e1 ⟨rfl, w⟩)] at hR
              subst hR
              exact ⟨y1, rfl, Or.inl ⟨t1, rfl, t3⟩⟩
      · have z : ¬ (cp g k f 1 e a).1 = true := by rw [t1]; decide
        rw [if_neg z] at hR
        rw [hR] at t1 t2 t3
        subst t2
        have w1 := ne1 _ t3
        refine ⟨_, S_passes (c := 60) (by omega) μ0 hr (by omega), fun y6 μ7 r7 => ?_⟩
        rcases r7 with ⟨c1, _⟩ | ⟨_, c3, c4⟩
        · exact absurd c1 w1
        · cases c3
          subst c4
          refine ⟨fun _ => ⟨_, S_passes (c := 62) (by omega) μ0 hr (by omega), fun y12 μ13 r13 => ?_⟩, fun q => absurd rfl q⟩
          rcases r13 with ⟨c1, _⟩ | ⟨_, c3, c4⟩
          · exact absurd c1 w1
          · cases c3
            subst c4
            refine ⟨fun _ => ⟨_, S_passes (c := 61) (by omega) μ0 hr (by omega), fun y18 μ19 r19 => ?_⟩, fun q => absurd rfl q⟩
            rcases r19 with ⟨c1, _⟩ | ⟨_, c3, c4⟩
            · exact absurd c1 w1
            · cases c3
              subst c4
              exact ⟨fun _ => ⟨y1, rfl, Or.inr ⟨t1, rfl, t3⟩⟩, fun q => absurd rfl q⟩
    · -- sum
      intro D e a hD he ha hb
      obtain ⟨D, rfl⟩ : ∃ E, D = E + 1 := ⟨D - 1, by omega⟩
      refine m2_MT.intro (ls := [.ref kM, .int (nI e), .null, .null, .null]) (by decide +kernel) rfl (ble rfl) (fun κ hk => ?_)
      generalize hR : cp g k (f + 1) 1 e a = R at hk hb
      unfold cp at hR
      simp only at hR
      have b1 : (cp g k f 2 e a).1 = true ∨ cp_Bd 2 a ≤ f := by
        by_cases z : (cp g k f 2 e a).1 = true
        · exact Or.inl z
        · rw [if_neg z] at hR
          rcases hb with hb | hb
          · rw [← hR] at hb; exact absurd hb z
          · right; simp only [cp_Bd, cp_rk] at hb ⊢; omega
      refine B_X12_sum_0 hk ⟨_, ih2 D e a (by omega) he ha b1, fun y1 μ2 r2 => ?_⟩
      obtain ⟨v, ev, r2⟩ := r2
      cases ev
      rcases r2 with ⟨t1, t2, t3⟩ | ⟨t1, t2, t3⟩
      · rw [if_pos t1] at hR
        obtain ⟨p1, p2, p3⟩ := cp_pos f 2 e a ha (by decide) t1
        have p3 := p3 (by decide)
        subst t2
        refine ih4 D e _ (by omega) he p1 ?_ y1 κ _ hk (fun ret μ' o => ?_)
        · rcases hb with hb | hb
          · rw [← hR] at hb; exact Or.inl hb
          · right; simp only [cp_Bd, cp_rk] at hb ⊢; omega
        · obtain ⟨v', ev', o⟩ := o
          refine ⟨v', ev', ?_⟩
          rw [← hR]
          rcases o with ⟨o1, o2, o3⟩ | ⟨o1, o2, o3⟩
          · left
            refine ⟨o1, o2, fun s => ?_⟩
            show rp env ((cp g k f 2 e a).2.2 ++ (cp g k f 4 e (cp g k f 2 e a).2.1).2.2) ([] ++ s) = _
            rw [rp_app, List.nil_append, show rp env (cp g k f 2 e a).2.2 s = y1 :: s from t3 s]
            exact o3 s
          · right
            exact ⟨o1, o2, o3⟩
      · have z : ¬ (cp g k f 2 e a).1 = true := by rw [t1]; decide
        rw [if_neg z] at hR
        rw [hR] at t1 t2 t3
        subst t2
        refine B_X12_sum_6 hk (Nat.zero_le _) ?_
        rw [ps_fine]
        exact ⟨fun q => absurd q (ne1 _ t3), fun _ => ⟨y1, rfl, Or.inr ⟨t1, rfl, t3⟩⟩⟩
    · -- product
      intro D e a hD he ha hb
      obtain ⟨D, rfl⟩ : ∃ E, D = E + 1 := ⟨D - 1, by omega⟩
      refine m2_MT.intro (ls := [.ref kM, .int (nI e), .null]) (by decide +kernel) rfl (ble rfl) (fun κ hk => ?_)
      generalize hR : cp g k (f + 1) 2 e a = R at hk hb
      unfold cp at hR
      simp only at hR
      have b1 : (cp g k f 3 e a).1 = true ∨ cp_Bd 3 a ≤ f := by
        by_cases z : (cp g k f 3 e a).1 = true
        · exact Or.inl z
        · rw [if_neg z] at hR
          rcases hb with hb | hb
          · rw [← hR] at hb; exact absurd hb z
          · right; simp only [cp_Bd, cp_rk] at hb ⊢; omega
      refine B_X12_product_0 hk ⟨_, ih3 D e a (by omega) he ha b1, fun y1 μ2 r2 => ?_⟩
      obtain ⟨v, ev, r2⟩ := r2
      cases ev
      rcases r2 with ⟨t1, t2, t3⟩ | ⟨t1, t2, t3⟩
      · rw [if_pos t1] at hR
        obtain ⟨p1, p2, p3⟩ := cp_pos f 3 e a ha (by decide) t1
        have p3 := p3 (by decide)
        subst t2
        refine ih5 D e _ (by omega) he p1 ?_ y1 κ _ hk (fun ret μ' o => ?_)
        · rcases hb with hb | hb
          · rw [← hR] at hb; exact Or.inl hb
          · right; simp only [cp_Bd, cp_rk] at hb ⊢; omega
        · obtain ⟨v', ev', o⟩ := o
          refine ⟨v', ev', ?_⟩
          rw [← hR]
          rcases o with ⟨o1, o2, o3⟩ | ⟨o1, o2, o3⟩
          · left
            refine ⟨o1, o2, fun s => ?_⟩
            show rp env ((cp g k f 3 e a).2.2 ++ (cp g k f 5 e (cp g k f 3 e a).2.1).2.2) ([] ++ s) = _
            rw [rp_app, List.nil_append, show rp env (cp g k f 3 e a).2.2 s = y1 :: s from t3 s]
            exact o3 s
          · right
            exact ⟨o1, o2, o3⟩
      · have z : ¬ (cp g k f 3 e a).1 = true := by rw [t1]; decide
        rw [if_neg z] at hR
        rw [hR] at t1 t2 t3
        subst t2
        refine B_X12_product_6 hk ⟨_, S_passes (by omega) μ0 hr (by omega), fun y6 μ7 r7 => ?_⟩
        rcases r7 with ⟨c1, _⟩ | ⟨_, c3, c4⟩
        · exact absurd c1 (ne1 _ t3)
        · cases c3
          subst c4
          exact ⟨fun _ => ⟨y1, rfl, Or.inr ⟨t1, rfl, t3⟩⟩, fun q => absurd rfl q⟩
    · -- thing
      intro D e a hD he ha hb
      obtain ⟨D, rfl⟩ : ∃ E, D = E + 1 := ⟨D - 1, by omega⟩
      refine m2_MT.intro (ls := [.ref kM, .int (nI e), .null, .null]) (by decide +kernel) rfl (ble rfl) (fun κ hk => ?_)
      generalize hR : cp g k (f + 1) 3 e a = R at hk hb
      unfold cp at hR
      simp only at hR
      refine B_X12_thing_0 hk (Nat.zero_le _) ⟨_, S_passes (w := -1) (c := 45) (by omega) μ0 hr (by omega), fun y1 μ2 r2 => ?_⟩
      rcases r2 with ⟨_, c2, c3, c4⟩ | ⟨c1, c3, c4⟩
      · cases c3
        subst c4
        have hl : a < 40 := h_lt c2 (by decide)
        rw [if_pos c2] at hR
        have b1 : (cp g k f 3 e (a + 1)).1 = true ∨ cp_Bd 3 (a + 1) ≤ f := by
          rcases hb with hb | hb
          · rw [← hR] at hb; exact Or.inl hb
          · right; simp only [cp_Bd, cp_rk] at hb ⊢; omega
        refine ⟨fun q => absurd q (by decide), fun _ => ⟨_, ih3 D e (a + 1) (by omega) he (by omega) b1, fun y28 μ29 r29 => ?_⟩⟩
        obtain ⟨v, ev, r29⟩ := r29
        cases ev
        refine ⟨_, rfl, ?_⟩
        rw [← hR]
        rcases r29 with ⟨t1, t2, t3⟩ | ⟨t1, t2, t3⟩
        · left
          refine ⟨t1, t2, fun s => ?_⟩
          show rp env ((cp g k f 3 e (a + 1)).2.2 ++ [-256]) ([] ++ s) = _
          rw [rp_app, List.nil_append, show rp env (cp g k f 3 e (a + 1)).2.2 s = y28 :: s from t3 s]
          exact rp_neg
        · right
          exact ⟨t1, t2, t3⟩
      · cases c3
        subst c4
        have c45 : ¬ cp_h g k a = 45 := fun w => c1 ⟨rfl, w⟩
        rw [if_neg c45] at hR
        refine ⟨fun _ => ?_, fun q => absurd rfl q⟩
        rw [ps_fine]
        refine ⟨fun _ => ⟨_, S_here (w := -1) μ0 hr (by omega), fun y11 μ12 r12 => ?_⟩, fun q => absurd rfl q⟩
        obtain ⟨e11, e12⟩ := r12
        cases e11
        subst e12
        have low : ¬ (cp_h g k a = 40 ∧ e < 4) → κ 67 [.ref kM, .int (nI e), .int (cp_h g k a), .null] [] (ps μ0 a (-1)) := by
          intro nz
          rw [if_neg nz] at hR
          refine B_X12_thing_67 hk (Nat.zero_le _) ⟨fun q => ?_, fun q => ?_⟩
          · have qd := dg_iff.mp q
            rw [if_pos qd] at hR
            refine ⟨_, S_number (j := 3) (by omega) μ0 hr ha (by decide), fun y5 μ6 r6 => ?_⟩
            have e1 : cp_n g k 3 a 0 = cp_n g k 2 (a + 1) (10 * 0 + cp_h g k a - 48) := by
              show cp_nH _ _ _ _ = _
              rw [cp_nH, if_pos qd]
            have hl : a < 40 := (hT_lt (k := k) (g := g) (top := 40) (a := a) (dg_ne qd)).2
            obtain ⟨j1, j2, j3⟩ := nH_pos (top := 40) (k := k) (g := g) 2 (a + 1) (10 * 0 + cp_h g k a - 48) (by omega)
            have hgt : a < (cp_n g k 3 a 0).2 := by rw [e1]; exact j1
            obtain ⟨x, hx, ex⟩ := nH_val (hf := cp_h g k) 3 a 0 1 (by decide) (by decide)
            have ex : (cp_n g k 3 a 0).1 = nI x := ex
            have hx : x < 1000 := by simpa using hx
            rcases r6 with ⟨w, _⟩ | ⟨_, ⟨w, _⟩ | ⟨_, ⟨w1, w2, w3⟩ | ⟨w1, _⟩⟩⟩
            · exact absurd rfl w
            · have w : (cp_n g k 3 a 0).2 = a := w
              omega
            · cases w2
              refine ⟨_, rfl, Or.inl ?_⟩
              rw [← hR]
              refine ⟨rfl, w3, fun s => ?_⟩
              show rp env [(cp_n g k 3 a 0).1] ([] ++ s) = (cp_n g k 3 a 0).1 :: s
              rw [ex]
              exact rp_num (by omega)
            · exfalso
              apply w1
              show (cp_n g k 3 a 0).1 ≤ 999
              rw [ex]
              exact nI_le (b := 999) (by omega) (by decide)
          · have qd : ¬ cp_dg (cp_h g k a) = true := fun w => q (dg_iff.mpr w)
            rw [if_neg qd] at hR
            by_cases hz : cp_nm (cp_h g k a) = 0
            · rw [if_pos hz] at hR
              have n1 : ∀ c : Int32, cp_nm c ≠ 0 → ¬ cp_h g k a = c := fun c hc w => hc (by rw [← w]; exact hz)
              refine ⟨fun w => absurd w (n1 108 (by decide)), fun _ => ⟨fun w => absurd w (n1 109 (by decide)), fun _ => ⟨fun w => absurd w (n1 111 (by decide)), fun _ => ⟨fun w => absurd w (n1 104 (by decide)), fun _ => ⟨fun w => absurd w (n1 119 (by decide)), fun _ => ⟨fun w => absurd w (n1 107 (by decide)), fun _ => ⟨_, S_fault (by omega) μ0, fun μ17 e17 => ?_⟩⟩⟩⟩⟩⟩⟩
              rw [if_pos rfl] at e17
              refine ⟨0, rfl, Or.inr ?_⟩
              rw [← hR]
              exact ⟨rfl, e17, ha⟩
            · rw [if_neg hz] at hR
              have fin : κ 133 [.ref kM, .int (nI e), .int (cp_h g k a), .null] [] (ps μ0 a (-1)) := by
                refine K_name hk μ0 hE hz ⟨_, rfl, Or.inl ?_⟩
                rw [← hR]
                refine ⟨rfl, rfl, fun s => ?_⟩
                exact rp_nm hz
              refine ⟨fun _ => fin, fun n108 => ⟨fun _ => fin, fun n109 => ⟨fun _ => fin, fun n111 => ⟨fun _ => fin, fun n104 => ⟨fun _ => fin, fun n119 => ⟨fun _ => fin, fun n107 => ?_⟩⟩⟩⟩⟩⟩
              exfalso
              rcases nmcases hz with ⟨w, _⟩ | ⟨w, _⟩ | ⟨w, _⟩ | ⟨w, _⟩ | ⟨w, _⟩ | ⟨w, _⟩
              · exact n108 w
              · exact n109 w
              · exact n111 w
              · exact n104 w
              · exact n119 w
              · exact n107 w
        refine ⟨fun q => low (fun w => q w.1), fun q => ⟨fun q2 => low (fun w => ?_), fun q2 => ?_⟩⟩
        · exact nI_ge (b := 4) w.2 (by decide) q2
        · have e4 : e < 4 := by
            by_cases w : e < 4
            · exact w
            · exact absurd (nI_le (a := 4) (b := e) (by omega) (by omega)) q2
          have hl : a < 40 := h_lt (c := 40) q (by decide)
          rw [if_pos ⟨q, e4⟩] at hR
          rw [show (ps μ0 a (-1)).1 kM 26 = nI a from rfl, nI_1, nI_1, ps_26]
          have b1 : (cp g k f 0 (e + 1) (a + 1)).1 = true ∨ cp_Bd 0 (a + 1) ≤ f := by
            by_cases z : (cp g k f 0 (e + 1) (a + 1)).1 = true
            · exact Or.inl z
            · rw [if_neg z] at hR
              rcases hb with hb | hb
              · rw [← hR] at hb; exact absurd hb z
              · right; simp only [cp_Bd, cp_rk] at hb ⊢; omega
          refine ⟨_, ih0 D (e + 1) (a + 1) (by omega) (by omega) (by omega) b1, fun y18 μ19 r19 => ?_⟩
          obtain ⟨v, ev, r19⟩ := r19
          cases ev
          rcases r19 with ⟨t1, t2, t3⟩ | ⟨t1, t2, t3⟩
          · rw [if_pos t1] at hR
            obtain ⟨p1, p2, p3⟩ := cp_pos f 0 (e + 1) (a + 1) (by omega) (by decide) t1
            subst t2
            refine ⟨_, S_need (w := -1) (by omega) μ0 hr (by omega), fun μ24 r24 => ?_⟩
            rcases r24 with ⟨_, u2, u3⟩ | ⟨u1, u3⟩
            · have u2 : cp_h g k (cp g k f 0 (e + 1) (a + 1)).2.1 = 41 := u2
              rw [if_pos u2] at hR
              refine ⟨_, rfl, Or.inl ?_⟩
              rw [← hR]
              exact ⟨rfl, u3, t3⟩
            · have u2 : ¬ cp_h g k (cp g k f 0 (e + 1) (a + 1)).2.1 = 41 := fun w => u1 ⟨rfl, w⟩
              rw [if_neg u2] at hR
              rw [if_pos rfl] at u3
              refine ⟨_, rfl, Or.inr ?_⟩
              rw [← hR]
              exact ⟨rfl, u3, p1⟩
          · have z : ¬ (cp g k f 0 (e + 1) (a + 1)).1 = true := by rw [t1]; decide
            rw [if_neg z] at hR
            rw [hR] at t1 t2 t3
            subst t2
            refine ⟨_, S_need (by omega) μ0 hr (by omega), fun μ24 r24 => ?_⟩
            have w1 := ne1 _ t3
            rcases r24 with ⟨u1, _⟩ | ⟨_, u3⟩
            · exact absurd u1 w1
            · rw [if_neg w1] at u3
              exact ⟨_, rfl, Or.inr ⟨t1, u3, t3⟩⟩
    · -- the rest of a sum
      intro D e a hD he ha hb v κ Q hk hQ
      generalize hR : cp g k (f + 1) 4 e a = R at hb hQ
      unfold cp at hR
      simp only at hR
      refine B_X12_sum_6 hk (Nat.zero_le _) ?_
      rw [ps_fine]
      refine ⟨fun _ => ⟨_, S_here (w := -1) μ0 hr (by omega), fun y5 μ6 r6 => ?_⟩, fun q => absurd rfl q⟩
      obtain ⟨e5, e6⟩ := r6
      cases e5
      subst e6
      have step : ∀ c : Int32, (c = 43 ∨ c = 45) → cp_h g k a = c → ∃ Q20 : Option Value → m2M → Prop, m2_MT D yX12_product cX12_product 3 (some .int) [.ref kM, .int (nI e)] (m2_si (ps μ0 a (-1)) kM 26 ((ps μ0 a (-1)).1 kM 26 + 1)) Q20 ∧ ∀ (y18 : Int32) (μ19 : m2M), Q20 (some (.int y18)) μ19 → κ 6 [.ref kM, .int (nI e), .int (jnF c v y18), .null, .null] [] μ19 := by
        intro c hc hh
        have hl : a < 40 := by rcases hc with rfl | rfl <;> exact h_lt hh (by decide)
        rw [if_pos (by rw [hh]; exact hc)] at hR
        rw [show (ps μ0 a (-1)).1 kM 26 = nI a from rfl, nI_1, ps_26]
        have b1 : (cp g k f 2 e (a + 1)).1 = true ∨ cp_Bd 2 (a + 1) ≤ f := by
          by_cases z : (cp g k f 2 e (a + 1)).1 = true
          · exact Or.inl z
          · rw [if_neg z] at hR
            rcases hb with hb | hb
            · rw [← hR] at hb; exact absurd hb z
            · right; simp only [cp_Bd, cp_rk] at hb ⊢; omega
        refine ⟨_, ih2 D e (a + 1) (by omega) he (by omega) b1, fun y18 μ19 r19 => ?_⟩
        obtain ⟨v', ev, r19⟩ := r19
        cases ev
        rcases r19 with ⟨t1, t2, t3⟩ | ⟨t1, t2, t3⟩
        · rw [if_pos t1] at hR
          obtain ⟨p1, p2, p3⟩ := cp_pos f 2 e (a + 1) (by omega) (by decide) t1
          subst t2
          refine ih4 D e _ (by omega) he p1 ?_ _ κ Q hk (fun ret μ' o => hQ ret μ' ?_)
          · rcases hb with hb | hb
            · rw [← hR] at hb; exact Or.inl hb
            · right; simp only [cp_Bd, cp_rk] at hb ⊢; omega
          · obtain ⟨v'', ev'', o⟩ := o
            refine ⟨v'', ev'', ?_⟩
            rw [← hR]
            rcases o with ⟨o1, o2, o3⟩ | ⟨o1, o2, o3⟩
            · left
              refine ⟨o1, o2, fun s => ?_⟩
              show rp env ((cp g k f 2 e (a + 1)).2.2 ++ (- cp_h g k a) :: (cp g k f 4 e (cp g k f 2 e (a + 1)).2.1).2.2) ([v] ++ s) = _
              rw [rp_app, show rp env (cp g k f 2 e (a + 1)).2.2 ([v] ++ s) = y18 :: v :: s from t3 (v :: s), hh]
              have := rp_jn (env := env) (c := c) (x := v) (y := y18) (s := s) (by rcases hc with rfl | rfl <;> decide)
              have e2 : rp env ((- c) :: (cp g k f 4 e (cp g k f 2 e (a + 1)).2.1).2.2) (y18 :: v :: s) = rp env (cp g k f 4 e (cp g k f 2 e (a + 1)).2.1).2.2 (rp env [- c] (y18 :: v :: s)) := rfl
              rw [e2, this]
              exact o3 s
            · right
              exact ⟨o1, o2, o3⟩
        · have z : ¬ (cp g k f 2 e (a + 1)).1 = true := by rw [t1]; decide
          rw [if_neg z] at hR
          rw [hR] at t1 t2 t3
          subst t2
          refine B_X12_sum_6 hk (Nat.zero_le _) ?_
          rw [ps_fine]
          exact ⟨fun q => absurd q (ne1 _ t3), fun _ => hQ _ _ ⟨_, rfl, Or.inr ⟨t1, rfl, t3⟩⟩⟩
      refine ⟨fun q => ⟨_, S_here (w := -1) μ0 hr (by omega), fun y11 μ12 r12 => ?_⟩, fun q => ⟨_, S_here (w := -1) μ0 hr (by omega), fun y24 μ25 r25 => ?_⟩⟩
      · obtain ⟨e11, e12⟩ := r12
        cases e11
        subst e12
        obtain ⟨Q20, m20, k20⟩ := step 43 (Or.inl rfl) q
        refine ⟨Q20, m20, fun y18 μ19 q19 => ⟨fun _ => k20 y18 μ19 q19, fun w => absurd q w⟩⟩
      · obtain ⟨e24, e25⟩ := r25
        cases e24
        subst e25
        refine ⟨fun q2 => ?_, fun q2 => ⟨_, S_here (w := -1) μ0 hr (by omega), fun y30 μ31 r31 => ?_⟩⟩
        · rw [if_neg (fun w => w.elim q q2)] at hR
          refine hQ _ _ ⟨v, rfl, Or.inl ?_⟩
          rw [← hR]
          exact ⟨rfl, rfl, fun s => rfl⟩
        · obtain ⟨e30, e31⟩ := r31
          cases e30
          subst e31
          obtain ⟨Q20, m20, k20⟩ := step 45 (Or.inr rfl) q2
          refine ⟨Q20, m20, fun y18 μ19 q19 => ⟨fun w => absurd w q, fun _ => k20 y18 μ19 q19⟩⟩
    · -- the rest of a product
      intro D e a hD he ha hb v κ Q hk hQ
      generalize hR : cp g k (f + 1) 5 e a = R at hb hQ
      unfold cp at hR
      simp only at hR
      refine B_X12_product_6 hk ⟨_, S_passes (w := -1) (c := 42) (by omega) μ0 hr (by omega), fun y1 μ2 r2 => ?_⟩
      rcases r2 with ⟨_, c2, c3, c4⟩ | ⟨c1, c3, c4⟩
      · cases c3
        subst c4
        have hl : a < 40 := h_lt c2 (by decide)
        rw [if_pos c2] at hR
        have b1 : (cp g k f 3 e (a + 1)).1 = true ∨ cp_Bd 3 (a + 1) ≤ f := by
          by_cases z : (cp g k f 3 e (a + 1)).1 = true
          · exact Or.inl z
          · rw [if_neg z] at hR
            rcases hb with hb | hb
            · rw [← hR] at hb; exact absurd hb z
            · right; simp only [cp_Bd, cp_rk] at hb ⊢; omega
        refine ⟨fun q => absurd q (by decide), fun _ => ⟨_, ih3 D e (a + 1) (by omega) he (by omega) b1, fun y7 μ8 r8 => ?_⟩⟩
        obtain ⟨v', ev, r8⟩ := r8
        cases ev
        rcases r8 with ⟨t1, t2, t3⟩ | ⟨t1, t2, t3⟩
        · rw [if_pos t1] at hR
          obtain ⟨p1, p2, p3⟩ := cp_pos f 3 e (a + 1) (by omega) (by decide) t1
          subst t2
          refine ih5 D e _ (by omega) he p1 ?_ _ κ Q hk (fun ret μ' o => hQ ret μ' ?_)
          · rcases hb with hb | hb
            · rw [← hR] at hb; exact Or.inl hb
            · right; simp only [cp_Bd, cp_rk] at hb ⊢; omega
          · obtain ⟨v'', ev'', o⟩ := o
            refine ⟨v'', ev'', ?_⟩
            rw [← hR]
            rcases o with ⟨o1, o2, o3⟩ | ⟨o1, o2, o3⟩
            · left
              refine ⟨o1, o2, fun s => ?_⟩
              show rp env ((cp g k f 3 e (a + 1)).2.2 ++ (- 42) :: (cp g k f 5 e (cp g k f 3 e (a + 1)).2.1).2.2) ([v] ++ s) = _
              rw [rp_app, show rp env (cp g k f 3 e (a + 1)).2.2 ([v] ++ s) = y7 :: v :: s from t3 (v :: s)]
              have := rp_jn (env := env) (c := 42) (x := v) (y := y7) (s := s) (by decide)
              have e2 : rp env ((- 42) :: (cp g k f 5 e (cp g k f 3 e (a + 1)).2.1).2.2) (y7 :: v :: s) = rp env (cp g k f 5 e (cp g k f 3 e (a + 1)).2.1).2.2 (rp env [- 42] (y7 :: v :: s)) := rfl
              rw [e2, this]
              exact o3 s
            · right
              exact ⟨o1, o2, o3⟩
        · have z : ¬ (cp g k f 3 e (a + 1)).1 = true := by rw [t1]; decide
          rw [if_neg z] at hR
          rw [hR] at t1 t2 t3
          subst t2
          refine B_X12_product_6 hk ⟨_, S_passes (by omega) μ0 hr (by omega), fun y6 μ7 r7 => ?_⟩
          rcases r7 with ⟨u1, _⟩ | ⟨_, u3, u4⟩
          · exact absurd u1 (ne1 _ t3)
          · cases u3
            subst u4
            exact ⟨fun _ => hQ _ _ ⟨_, rfl, Or.inr ⟨t1, rfl, t3⟩⟩, fun q => absurd rfl q⟩
      · cases c3
        subst c4
        refine ⟨fun _ => ?_, fun q => absurd rfl q⟩
        rw [if_neg (fun w => c1 ⟨rfl, w⟩)] at hR
        refine hQ _ _ ⟨v, rfl, Or.inl ?_⟩
        rw [← hR]
        exact ⟨rfl, rfl, fun s => rfl⟩
