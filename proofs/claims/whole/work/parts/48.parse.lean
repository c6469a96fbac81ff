/-! the reference reads a text -/
def ps (μ0 : m2M) (a : Nat) (w : Int32) : m2M := m2_si (m2_si μ0 kM 26 (nI a)) kM 27 w
theorem si_swap (μ : m2M) (c : Nat) {j j' : Nat} (h : j ≠ j') (x y : Int32) : m2_si (m2_si μ c j x) c j' y = m2_si (m2_si μ c j' y) c j x := by
  unfold m2_si
  rw [m2_sr_same, m2_sr_same, m2_sr_sr, m2_sr_sr]
  refine m2_sr_eq (fun i => ?_)
  unfold upd
  by_cases h1 : i = j
  · subst h1
    rw [if_neg h, if_pos rfl, if_pos rfl]
  · by_cases h2 : i = j'
    · subst h2
      rw [if_pos rfl, if_neg h1, if_pos rfl]
    · rw [if_neg h2, if_neg h1, if_neg h1, if_neg h2]
theorem ps_26 (μ0 : m2M) (a b : Nat) (w : Int32) : m2_si (ps μ0 a w) kM 26 (nI b) = ps μ0 b w := by
  unfold ps
  rw [si_swap _ _ (by decide), m2_si_si]
theorem ps_27 (μ0 : m2M) (a : Nat) (w x : Int32) : m2_si (ps μ0 a w) kM 27 x = ps μ0 a x := by
  unfold ps
  rw [m2_si_si]
theorem ps_fine (μ0 : m2M) (a : Nat) (w : Int32) : fX12_fine (ps μ0 a w) = 1 ↔ w = -1 := by
  unfold fX12_fine
  rw [show (ps μ0 a w).1 kM 27 = w from rfl]
  by_cases z : w = -1
  · simp [z]
  · simp [z]
/-- which text is read, how far -/
def rdC (μ0 : m2M) (g : Nat → Int32) (k top : Nat) : Prop := (μ0.1 kM 24 = nI k ∧ k ≤ 80 ∧ μ0.1 kM 25 = nI top ∧ top ≤ 80) ∧ ((μ0.1 kM 23 = nI kM_text ∧ g = μ0.1 kM_text) ∨ (μ0.1 kM 23 = nI kM_price ∧ g = μ0.1 kM_price ∧ top = 40))
theorem S_here {D a k top : Nat} {g : Nat → Int32} {w : Int32} (μ0 : m2M) (h : rdC μ0 g k top) (ha : a ≤ 80) : m2_MT D yX12_here cX12_here 1 (some .int) [.ref kM] (ps μ0 a w) (fun r μ' => r = some (.int (cp_hT top g k a)) ∧ μ' = ps μ0 a w) := by
  obtain ⟨⟨h1, h2, h3, h4⟩, h5⟩ := h
  refine m2_MT.intro (ls := [.ref kM]) (by decide +kernel) rfl (ble rfl) (fun κ hk => ?_)
  refine B_X12_here_0 hk ?_
  have e24 : (ps μ0 a w).1 kM 24 = nI k := h1
  have e25 : (ps μ0 a w).1 kM 25 = nI top := h3
  have e26 : (ps μ0 a w).1 kM 26 = nI a := rfl
  rw [e24, e25, e26]
  unfold cp_hT
  refine ⟨fun z => ?_, fun z => ⟨fun z2 => ?_, fun z2 => ?_⟩⟩
  · have := (nI_leI (by omega) (by omega)).mp z
    rw [if_neg (by omega)]
    exact ⟨rfl, rfl⟩
  · have := (nI_leI (by omega) (by omega)).mp z2
    rw [if_neg (by omega)]
    exact ⟨rfl, rfl⟩
  · have z' : a < k := by
      by_cases q : a < k
      · exact q
      · exact absurd (nI_le (by omega) (by omega)) z
    have z2' : a < top := by
      by_cases q : a < top
      · exact q
      · exact absurd (nI_le (by omega) (by omega)) z2
    rw [if_pos ⟨z', z2'⟩, nI_clamp (by omega)]
    rcases h5 with ⟨h6, h7⟩ | ⟨h6, h7, h8⟩
    · have e23 : (ps μ0 a w).1 kM 23 = nI kM_text := h6
      rw [e23, h7]
      exact ⟨Or.inl rfl, fun _ => ⟨vp_in_nI (by omega) (by decide), rfl, rfl⟩, fun q => absurd q (by decide)⟩
    · have e23 : (ps μ0 a w).1 kM 23 = nI kM_price := h6
      rw [e23, h7]
      exact ⟨Or.inr rfl, fun q => absurd q (by decide), fun _ => ⟨vp_in_nI (by omega) (by decide), rfl, rfl⟩⟩
theorem S_fault {D a : Nat} {w x : Int32} (hD : 1 ≤ D) (μ0 : m2M) : m2_MT D yX12_fault cX12_fault 2 none [.ref kM, .int x] (ps μ0 a w) (fun _ μ' => μ' = ps μ0 a (if w = -1 then x else w)) := by
  obtain ⟨D, rfl⟩ : ∃ E, D = E + 1 := ⟨D - 1, by omega⟩
  refine m2_MT.intro (ls := [.ref kM, .int x]) (by decide +kernel) rfl (ble rfl) (fun κ hk => ?_)
  refine B_X12_fault_0 hk (Nat.zero_le _) ?_
  rw [ps_fine]
  refine ⟨fun z => ?_, fun z => ?_⟩
  · rw [if_pos z, ps_27]
  · rw [if_neg z]
theorem S_passes {D a k top : Nat} {g : Nat → Int32} {w c : Int32} (hD : 1 ≤ D) (μ0 : m2M) (h : rdC μ0 g k top) (ha : a ≤ 80) : m2_MT D yX12_passes cX12_passes 2 (some .boolean) [.ref kM, .int c] (ps μ0 a w) (fun r μ' => (w = -1 ∧ cp_hT top g k a = c ∧ r = some (.int 1) ∧ μ' = ps μ0 (a + 1) w) ∨ (¬ (w = -1 ∧ cp_hT top g k a = c) ∧ r = some (.int 0) ∧ μ' = ps μ0 a w)) := by
  obtain ⟨D, rfl⟩ : ∃ E, D = E + 1 := ⟨D - 1, by omega⟩
  refine m2_MT.intro (ls := [.ref kM, .int c]) (by decide +kernel) rfl (ble rfl) (fun κ hk => ?_)
  refine B_X12_passes_0 hk (Nat.zero_le _) ?_
  rw [ps_fine]
  refine ⟨fun z => ⟨_, S_here μ0 h ha, fun y5 μ6 r6 => ?_⟩, fun z => Or.inr ⟨fun q => z q.1, rfl, rfl⟩⟩
  obtain ⟨e5, e6⟩ := r6
  cases e5
  subst e6
  refine ⟨fun q => Or.inl ⟨z, q, rfl, ?_⟩, fun q => Or.inr ⟨fun q2 => q q2.2, rfl, rfl⟩⟩
  rw [show (ps μ0 a w).1 kM 26 = nI a from rfl, nI_1, ps_26]
theorem S_need {D a k top : Nat} {g : Nat → Int32} {w c : Int32} (hD : 2 ≤ D) (μ0 : m2M) (h : rdC μ0 g k top) (ha : a ≤ 80) : m2_MT D yX12_need cX12_need 2 none [.ref kM, .int c] (ps μ0 a w) (fun _ μ' => (w = -1 ∧ cp_hT top g k a = c ∧ μ' = ps μ0 (a + 1) w) ∨ (¬ (w = -1 ∧ cp_hT top g k a = c) ∧ μ' = ps μ0 a (if w = -1 then nI a else w))) := by
  obtain ⟨D, rfl⟩ : ∃ E, D = E + 1 := ⟨D - 1, by omega⟩
  refine m2_MT.intro (ls := [.ref kM, .int c]) (by decide +kernel) rfl (ble rfl) (fun κ hk => ?_)
  refine B_X12_need_0 hk ⟨_, S_passes (by omega) μ0 h ha, fun y1 μ2 r2 => ?_⟩
  rcases r2 with ⟨a1, a2, a3, a4⟩ | ⟨a1, a3, a4⟩
  · cases a3
    subst a4
    exact ⟨fun _ => Or.inl ⟨a1, a2, rfl⟩, fun q => absurd q (by decide)⟩
  · cases a3
    subst a4
    refine ⟨fun q => absurd rfl q, fun _ => ⟨_, S_fault (by omega) μ0, fun μ8 e8 => Or.inr ⟨a1, ?_⟩⟩⟩
    rw [e8]
    rfl
theorem dg_iff {c : Int32} : fX12_in c 48 57 = 1 ↔ cp_dg c = true := by
  rw [fX12_in_iff]
  unfold cp_dg
  rw [decide_eq_true_iff, Int32.not_lt, Int32.not_lt]
theorem hT_lt {top k a : Nat} {g : Nat → Int32} (h : cp_hT top g k a ≠ -1) : a < k ∧ a < top := by
  unfold cp_hT at h
  by_cases z : a < k ∧ a < top
  · exact z
  · rw [if_neg z] at h
    exact absurd rfl h
theorem h_lt {k a : Nat} {g : Nat → Int32} {c : Int32} (h : cp_h g k a = c) (hc : c ≠ -1) : a < 40 := (hT_lt (top := 40) (k := k) (g := g) (fun z => hc (h.symm.trans z))).2
theorem dg_ne {c : Int32} (h : cp_dg c = true) : c ≠ -1 := by
  intro e
  subst e
  exact absurd h (by decide)
theorem nH_pos {top k : Nat} {g : Nat → Int32} : ∀ (j a : Nat) (v : Int32), a ≤ top → a ≤ (cp_nH (cp_hT top g k) j a v).2 ∧ (cp_nH (cp_hT top g k) j a v).2 ≤ top ∧ (cp_nH (cp_hT top g k) j a v).2 ≤ a + j
  | 0, a, v, h => ⟨Nat.le_refl a, h, Nat.le_refl a⟩
  | j + 1, a, v, h => by
    unfold cp_nH
    by_cases z : cp_dg (cp_hT top g k a) = true
    · rw [if_pos z]
      have hlt : a < top := (hT_lt (k := k) (g := g) (dg_ne z)).2
      have ih := nH_pos (top := top) (k := k) (g := g) j (a + 1) (10 * v + cp_hT top g k a - 48) (by omega)
      omega
    · rw [if_neg z]
      exact ⟨Nat.le_refl a, h, by show a ≤ a + (j + 1); omega⟩
/-- a number -/
theorem S_number {D a k top j : Nat} {g : Nat → Int32} {w hi : Int32} (hD : 2 ≤ D) (μ0 : m2M) (h : rdC μ0 g k top) (ha : a ≤ top) (hj : j ≤ 9) : m2_MT D yX12_number cX12_number 5 (some .int) [.ref kM, .int (nI j), .int hi] (ps μ0 a w) (fun r μ' => (w ≠ -1 ∧ r = some (.int 0) ∧ μ' = ps μ0 a w) ∨ (w = -1 ∧ (((cp_nH (cp_hT top g k) j a 0).2 = a ∧ r = some (.int 0) ∧ μ' = ps μ0 a (nI a)) ∨ ((cp_nH (cp_hT top g k) j a 0).2 ≠ a ∧ ((cp_nH (cp_hT top g k) j a 0).1 ≤ hi ∧ r = some (.int (cp_nH (cp_hT top g k) j a 0).1) ∧ μ' = ps μ0 (cp_nH (cp_hT top g k) j a 0).2 (-1) ∨ ¬ (cp_nH (cp_hT top g k) j a 0).1 ≤ hi ∧ r = some (.int 0) ∧ μ' = ps μ0 (cp_nH (cp_hT top g k) j a 0).2 (nI (cp_nH (cp_hT top g k) j a 0).2 - 1)))))) := by
  obtain ⟨D, rfl⟩ : ∃ E, D = E + 1 := ⟨D - 1, by omega⟩
  have htop : top ≤ 80 := h.1.2.2.2
  refine m2_MT.intro (ls := [.ref kM, .int (nI j), .int hi, .null, .null]) (by decide +kernel) rfl (ble rfl) (fun κ hk => ?_)
  refine B_X12_number_0 hk (Nat.zero_le _) ?_
  rw [ps_fine]
  refine ⟨fun z => ?_, fun z => Or.inl ⟨z, rfl, rfl⟩⟩
  subst z
  -- the end, at place b with value v
  have ne1 : ∀ b : Nat, b ≤ 80 → nI b ≠ -1 := fun b hb => nI_ne_m1 (by omega)
  generalize hR : cp_nH (cp_hT top g k) j a 0 = R at hk
  have key : ∀ (i b : Nat) (v : Int32), b ≤ top → b ≤ a + (j - i) → i ≤ j → b + i = a + j → cp_nH (cp_hT top g k) i b v = R → κ 17 [.ref kM, .int (nI j), .int hi, .int (nI a), .int v] [] (ps μ0 b (-1)) := by
    intro i
    induction i with
    | zero =>
      intro b v hb _ _ hbi hr
      have hr2 : (v, b) = R := hr
      subst hr2
      refine B_X12_number_17 hk (Nat.zero_le _) ?_
      rw [show (ps μ0 b (-1)).1 kM 26 = nI b from rfl, nI_add]
      refine ⟨fun _ => ⟨fun z => ⟨fun z2 => ⟨fun _ => ?_, fun q => absurd ((ps_fine μ0 b (-1)).mpr rfl) q⟩, fun z2 => ⟨_, S_fault (by omega) μ0, fun μ9 e9 => ?_⟩⟩, fun z => ⟨_, S_fault (by omega) μ0, fun μ18 e18 => ?_⟩⟩, fun q => absurd (nI_le (by omega) (by omega)) q⟩
      · have zb : b ≠ a := fun q => z (by rw [q])
        exact Or.inr ⟨rfl, Or.inr ⟨zb, Or.inl ⟨z2, rfl, rfl⟩⟩⟩
      · have zb : b ≠ a := fun q => z (by rw [q])
        rw [if_pos rfl] at e9
        subst e9
        rw [ps_fine]
        have hb0 : b ≠ 0 := by omega
        obtain ⟨c, rfl⟩ : ∃ c, b = c + 1 := ⟨b - 1, by omega⟩
        rw [nI_pred]
        refine ⟨fun q => absurd q (ne1 c (by omega)), fun _ => Or.inr ⟨rfl, Or.inr ⟨zb, Or.inr ⟨z2, rfl, ?_⟩⟩⟩⟩
        rfl
      · have zb : b = a := (nI_eq (by omega) (by omega)).mp z
        rw [if_pos rfl] at e18
        subst e18
        rw [ps_fine]
        refine ⟨fun q => absurd q (ne1 b (by omega)), fun _ => Or.inr ⟨rfl, Or.inl ⟨zb, rfl, ?_⟩⟩⟩
        rw [← zb]
    | succ i ih =>
      intro b v hb hbj hij hbi hr
      refine B_X12_number_17 hk (Nat.zero_le _) ?_
      rw [show (ps μ0 b (-1)).1 kM 26 = nI b from rfl, nI_add]
      refine ⟨fun q => absurd q (nI_ge (by omega) (by omega)), fun _ => ⟨_, S_here μ0 h (by omega), fun y26 μ27 r27 => ?_⟩⟩
      obtain ⟨e26, e27⟩ := r27
      cases e26
      subst e27
      have hr' := hr
      unfold cp_nH at hr'
      refine ⟨fun q => ⟨_, S_here μ0 h (by omega), fun y35 μ36 r36 => ?_⟩, fun q => ?_⟩
      · obtain ⟨e35, e36⟩ := r36
        cases e35
        subst e36
        have qd := dg_iff.mp q
        have hlt := (hT_lt (dg_ne qd)).2
        rw [if_pos qd] at hr'
        rw [show (ps μ0 b (-1)).1 kM 26 = nI b from rfl, nI_1, ps_26]
        exact ih (b + 1) _ (by omega) (by omega) (by omega) (by omega) hr'
      · have qd : ¬ cp_dg (cp_hT top g k b) = true := fun w => q (dg_iff.mpr w)
        rw [if_neg qd] at hr'
        subst hr'
        rw [show (ps μ0 b (-1)).1 kM 26 = nI b from rfl]
        refine ⟨fun z => ⟨fun z2 => ⟨fun _ => ?_, fun q => absurd ((ps_fine μ0 b (-1)).mpr rfl) q⟩, fun z2 => ⟨_, S_fault (by omega) μ0, fun μ9 e9 => ?_⟩⟩, fun z => ⟨_, S_fault (by omega) μ0, fun μ18 e18 => ?_⟩⟩
        · have zb : b ≠ a := fun q => z (by rw [q])
          exact Or.inr ⟨rfl, Or.inr ⟨zb, Or.inl ⟨z2, rfl, rfl⟩⟩⟩
        · have zb : b ≠ a := fun q => z (by rw [q])
          rw [if_pos rfl] at e9
          subst e9
          rw [ps_fine]
          obtain ⟨c, rfl⟩ : ∃ c, b = c + 1 := ⟨b - 1, by omega⟩
          rw [nI_pred]
          refine ⟨fun q => absurd q (ne1 c (by omega)), fun _ => Or.inr ⟨rfl, Or.inr ⟨zb, Or.inr ⟨z2, rfl, ?_⟩⟩⟩⟩
          rfl
        · have zb : b = a := (nI_eq (by omega) (by omega)).mp z
          rw [if_pos rfl] at e18
          subst e18
          rw [ps_fine]
          refine ⟨fun q => absurd q (ne1 b (by omega)), fun _ => Or.inr ⟨rfl, Or.inl ⟨zb, rfl, ?_⟩⟩⟩
          rw [← zb]
  exact key j a 0 ha (by omega) (Nat.le_refl j) rfl hR
/-! THE PRICE worked out -/
def jnF (c x y : Int32) : Int32 := if c = 43 then x + y else if c = 45 then x - y else if c = 60 then (if y ≤ x then 0 else 1) else if c = 61 then (if x = y then 1 else 0) else if c = 62 then (if x ≤ y then 0 else 1) else x * y
def stF (env : Int32 → Int32) (c : Int32) (s : List Int32) : List Int32 :=
  if c < -6 then (if c = -256 then (match s with | x :: s => (-x) :: s | [] => []) else (match s with | y :: x :: s => jnF (-c) x y :: s | s => s))
  else if c < 0 then env c :: s else c :: s
def rp (env : Int32 → Int32) : List Int32 → List Int32 → List Int32
  | [], s => s
  | c :: l, s => rp env l (stF env c s)
theorem rp_app (env : Int32 → Int32) : ∀ (l l' s : List Int32), rp env (l ++ l') s = rp env l' (rp env l s)
  | [], _, _ => rfl
  | c :: l, l', s => rp_app env l l' (stF env c s)
def cp_rk (m : Nat) : Nat := match m with
  | 0 => 7
  | 1 => 6
  | 2 => 5
  | 3 => 4
  | _ => 7
def cp_Bd (m a : Nat) : Nat := 8 * (41 - a) + cp_rk m
theorem cp_pos {g : Nat → Int32} {k : Nat} : ∀ (f m e a : Nat), a ≤ 40 → m ≤ 5 → (cp g k f m e a).1 = true → (cp g k f m e a).2.1 ≤ 40 ∧ a ≤ (cp g k f m e a).2.1 ∧ (m ≤ 3 → a < (cp g k f m e a).2.1) := by
  intro f
  induction f with
  | zero => intro m e a _ _ h; exact absurd h (by simp [cp])
  | succ f ih =>
    intro m e a ha hm h
    match m, hm with
    | 0, _ =>
      unfold cp at h ⊢
      simp only at h ⊢
      by_cases z : (cp g k f 1 e a).1 = true
      · rw [if_pos z] at h ⊢
        obtain ⟨i1, i2, i3⟩ := ih 1 e a ha (by decide) z
        have i3 := i3 (by decide)
        by_cases z2 : cp_h g k (cp g k f 1 e a).2.1 = 60 ∨ cp_h g k (cp g k f 1 e a).2.1 = 62 ∨ cp_h g k (cp g k f 1 e a).2.1 = 61
        · rw [if_pos z2] at h ⊢
          have hl : (cp g k f 1 e a).2.1 < 40 := by rcases z2 with w | w | w <;> exact h_lt w (by decide)
          obtain ⟨j1, j2, j3⟩ := ih 1 e ((cp g k f 1 e a).2.1 + 1) (by omega) (by decide) h
          exact ⟨j1, by simp only; omega, fun _ => by simp only; omega⟩
        · rw [if_neg z2] at h ⊢
          exact ⟨i1, i2, fun _ => i3⟩
      · rw [if_neg z] at h
        exact absurd h z
    | 1, _ =>
      unfold cp at h ⊢
      simp only at h ⊢
      by_cases z : (cp g k f 2 e a).1 = true
      · rw [if_pos z] at h ⊢
        obtain ⟨i1, i2, i3⟩ := ih 2 e a ha (by decide) z
        have i3 := i3 (by decide)
        obtain ⟨j1, j2, j3⟩ := ih 4 e (cp g k f 2 e a).2.1 i1 (by decide) h
        exact ⟨j1, by simp only; omega, fun _ => by simp only; omega⟩
      · rw [if_neg z] at h
        exact absurd h z
    | 2, _ =>
      unfold cp at h ⊢
      simp only at h ⊢
      by_cases z : (cp g k f 3 e a).1 = true
      · rw [if_pos z] at h ⊢
        obtain ⟨i1, i2, i3⟩ := ih 3 e a ha (by decide) z
        have i3 := i3 (by decide)
        obtain ⟨j1, j2, j3⟩ := ih 5 e (cp g k f 3 e a).2.1 i1 (by decide) h
        exact ⟨j1, by simp only; omega, fun _ => by simp only; omega⟩
      · rw [if_neg z] at h
        exact absurd h z
    | 3, _ =>
      unfold cp at h ⊢
      simp only at h ⊢
      by_cases z : cp_h g k a = 45
      · rw [if_pos z] at h ⊢
        have hl : a < 40 := h_lt z (by decide)
        obtain ⟨i1, i2, i3⟩ := ih 3 e (a + 1) (by omega) (by decide) h
        exact ⟨i1, by simp only; omega, fun _ => by simp only; omega⟩
      · rw [if_neg z] at h ⊢
        by_cases z2 : cp_h g k a = 40 ∧ e < 4
        · rw [if_pos z2] at h ⊢
          have hl : a < 40 := h_lt z2.1 (by decide)
          by_cases z3 : (cp g k f 0 (e + 1) (a + 1)).1 = true
          · rw [if_pos z3] at h ⊢
            obtain ⟨i1, i2, i3⟩ := ih 0 (e + 1) (a + 1) (by omega) (by decide) z3
            by_cases z4 : cp_h g k (cp g k f 0 (e + 1) (a + 1)).2.1 = 41
            · rw [if_pos z4] at h ⊢
              have hl : (cp g k f 0 (e + 1) (a + 1)).2.1 < 40 := h_lt z4 (by decide)
              exact ⟨by simp only; omega, by simp only; omega, fun _ => by simp only; omega⟩
            · rw [if_neg z4] at h
              exact absurd h (by simp)
          · rw [if_neg z3] at h
            exact absurd h z3
        · rw [if_neg z2] at h ⊢
          by_cases z3 : cp_dg (cp_h g k a) = true
          · rw [if_pos z3] at h ⊢
            have hl := (hT_lt (k := k) (g := g) (top := 40) (a := a) (dg_ne z3)).2
            have e1 : cp_n g k 3 a 0 = cp_n g k 2 (a + 1) (10 * 0 + cp_h g k a - 48) := by
              show cp_nH _ _ _ _ = _
              rw [cp_nH, if_pos z3]
            obtain ⟨j1, j2, j3⟩ := nH_pos (top := 40) (k := k) (g := g) 2 (a + 1) (10 * 0 + cp_h g k a - 48) (by omega)
            rw [e1]
            exact ⟨j2, Nat.le_trans (Nat.le_succ a) j1, fun _ => j1⟩
          · rw [if_neg z3] at h ⊢
            by_cases z4 : cp_nm (cp_h g k a) = 0
            · rw [if_pos z4] at h
              exact absurd h (by simp)
            · rw [if_neg z4]
              have hl := (hT_lt (k := k) (g := g) (top := 40) (a := a) (fun w => z4 (by show cp_nm (cp_hT 40 g k a) = 0; rw [w]; decide))).2
              exact ⟨by simp only; omega, by simp only; omega, fun _ => by simp only; omega⟩
    | 4, _ =>
      unfold cp at h ⊢
      simp only at h ⊢
      by_cases z : cp_h g k a = 43 ∨ cp_h g k a = 45
      · rw [if_pos z] at h ⊢
        have hl : a < 40 := by rcases z with w | w <;> exact h_lt w (by decide)
        by_cases z2 : (cp g k f 2 e (a + 1)).1 = true
        · rw [if_pos z2] at h ⊢
          obtain ⟨i1, i2, i3⟩ := ih 2 e (a + 1) (by omega) (by decide) z2
          obtain ⟨j1, j2, j3⟩ := ih 4 e _ i1 (by decide) h
          exact ⟨j1, by simp only; omega, fun w => absurd w (by decide)⟩
        · rw [if_neg z2] at h
          exact absurd h z2
      · rw [if_neg z]
        exact ⟨ha, Nat.le_refl a, fun w => absurd w (by decide)⟩
    | 5, _ =>
      unfold cp at h ⊢
      simp only at h ⊢
      by_cases z : cp_h g k a = 42
      · rw [if_pos z] at h ⊢
        have hl : a < 40 := h_lt z (by decide)
        by_cases z2 : (cp g k f 3 e (a + 1)).1 = true
        · rw [if_pos z2] at h ⊢
          obtain ⟨i1, i2, i3⟩ := ih 3 e (a + 1) (by omega) (by decide) z2
          obtain ⟨j1, j2, j3⟩ := ih 5 e _ i1 (by decide) h
          exact ⟨j1, by simp only; omega, fun w => absurd w (by decide)⟩
        · rw [if_neg z2] at h
          exact absurd h z2
      · rw [if_neg z]
        exact ⟨ha, Nat.le_refl a, fun w => absurd w (by decide)⟩
