/-! price -/
theorem m2_MTs.mono {d : Nat} {y : MethodName} {cc : ByteArray} {nL : Nat} {ret : Option FieldType} {as : List Value} {μ : m2M} {Q Q' : Option Value → m2M → Prop} (h : m2_MTs d y cc nL ret as μ Q) (hq : ∀ r μ', Q r μ' → Q' r μ') : m2_MTs d y cc nL ret as μ Q' := by
  intro l D dA ad sz hj
  exact MetFree.mono (h l D dA ad sz hj) (fun _ _ q => q) (fun _ _ _ _ _ q => q) (fun a st o t _ q => ⟨m2_Qc_mono hq q.1, q.2⟩)
def stps (D : Nat) (yc : MethodName) (cc : ByteArray) (nc : Nat) (rc : Option FieldType) (ym : MethodName) (cm : ByteArray) (nm : Nat) (rm : Option FieldType) (as : List Value) (μ : m2M) (P : m2M → Prop) : Prop := m2_MTs D yc cc nc rc (.ref kC :: as) μ (fun r μ1 => m2_MT D ym cm nm rm (.ref kM :: as) μ1 (fun r' μ2 => r' = r ∧ P μ2))
theorem T_ofs {D : Nat} {yc : MethodName} {cc : ByteArray} {nc : Nat} {rc : Option FieldType} {ym : MethodName} {cm : ByteArray} {nm : Nat} {rm : Option FieldType} {as : List Value} {μ : m2M} (r : Option Value) (ρ : m2M) (hc : m2_MTs D yc cc nc rc (.ref kC :: as) μ (fun r' μ1 => r' = r ∧ REL2 ρ μ1 ∧ frC μ μ1)) (hm : ∀ μ1, vM μ μ1 → m2_MT D ym cm nm rm (.ref kM :: as) μ1 (fun r' μ2 => r' = r ∧ vM ρ μ2 ∧ frM μ1 μ2)) : stps D yc cc nc rc ym cm nm rm as μ REL := by
  refine hc.mono ?_
  rintro r' μ1 ⟨rfl, h1, h2⟩
  refine (hm μ1 (h2.v vM.rf)).mono ?_
  rintro r'' μ2 ⟨rfl, h3, h4⟩
  exact ⟨rfl, REL2.z h1 h4.a h3⟩
theorem cp_congr {g g' : Nat → Int32} {k : Nat} (h : cp_h g k = cp_h g' k) : ∀ f m e a, cp g k f m e a = cp g' k f m e a := by
  have hh : ∀ a, cp_h g k a = cp_h g' k a := fun a => congrFun h a
  have hn : ∀ j a v, cp_n g k j a v = cp_n g' k j a v := fun j a v => by show cp_nH (cp_h g k) j a v = cp_nH (cp_h g' k) j a v; rw [h]
  intro f
  induction f with
  | zero => intro m e a; rfl
  | succ f ih =>
    intro m e a
    match m with
    | 0 => unfold cp; simp only [ih, hh]
    | 1 => unfold cp; simp only [ih]
    | 2 => unfold cp; simp only [ih]
    | 3 => unfold cp; simp only [ih, hh, hn]
    | 4 => unfold cp; simp only [ih, hh]
    | m + 5 => unfold cp; simp only [ih, hh]
theorem frX.j {μ M : m2M} (h : frX μ M) : agC μ M ∧ frC μ M := by
  refine ⟨⟨fun c j h1 h2 => ?_, fun j => by rw [(h.1 kC_row rfl).2]⟩, h.1.mo (fun c hc => ?_)⟩
  · cases e : ((c == kE) || (c == kE_draft) || (c == kE_waiting) || (c == kE_compared)) with
    | false => rw [(h.1 c e).1]
    | true =>
      simp only [Bool.or_eq_true, beq_iff_eq] at e
      rcases e with ((e | e) | e) | e
      · subst e
        by_cases z2 : j = 2
        · rw [z2]; exact h.2.1
        · by_cases z3 : j = 3
          · rw [z3]; exact h.2.2
          · exfalso
            revert h2
            unfold scr
            have a2 : (j == 2) = false := by simp [z2]
            have a3 : (j == 3) = false := by simp [z3]
            rw [a2, a3]
            simp
      · subst e; cases h2
      · subst e; cases h2
      · subst e; cases h2
  · cases e : ((c == kE) || (c == kE_draft) || (c == kE_waiting) || (c == kE_compared)) with
    | false => rfl
    | true =>
      simp only [Bool.or_eq_true, beq_iff_eq] at e
      rcases e with ((e | e) | e) | e <;> subst e <;> cases hc
theorem nar_byte : ∀ b : Fin 256, vp_nar .byte (nI b.val).toInt8.toInt32 = (nI b.val).toInt8.toInt32 := by decide +kernel
theorem cp_ne {g : Nat → Int32} {k : Nat} (h : (cp g k 400 0 0 0).1 = true) : (cp g k 400 0 0 0).2.2 ≠ [] := by
  intro e
  obtain ⟨v, hv⟩ := (cp_rp (env := fun _ => 0) 400 0 0 0 (by decide) h).1 (by decide) []
  rw [e] at hv
  cases hv
theorem cp_k {g : Nat → Int32} {k : Nat} : ∀ (f m e a : Nat), a ≤ k → a ≤ 40 → m ≤ 5 → (cp g k f m e a).1 = true → (cp g k f m e a).2.1 ≤ k := by
  have lk : ∀ {a : Nat} {c : Int32}, cp_h g k a = c → c ≠ -1 → a < k ∧ a < 40 := fun {a c} h hc => hT_lt (top := 40) (k := k) (g := g) (fun z => hc (h.symm.trans z))
  intro f
  induction f with
  | zero => intro m e a _ _ _ h; exact absurd h (by simp [cp])
  | succ f ih =>
    intro m e a ha ha4 hm h
    match m, hm with
    | 0, _ =>
      unfold cp at h ⊢
      simp only at h ⊢
      by_cases z : (cp g k f 1 e a).1 = true
      · rw [if_pos z] at h ⊢
        have i1 := ih 1 e a ha ha4 (by decide) z
        by_cases z2 : cp_h g k (cp g k f 1 e a).2.1 = 60 ∨ cp_h g k (cp g k f 1 e a).2.1 = 62 ∨ cp_h g k (cp g k f 1 e a).2.1 = 61
        · rw [if_pos z2] at h ⊢
          have hl : (cp g k f 1 e a).2.1 < k ∧ (cp g k f 1 e a).2.1 < 40 := by rcases z2 with w | w | w <;> exact lk w (by decide)
          exact ih 1 e ((cp g k f 1 e a).2.1 + 1) (by omega) (by omega) (by decide) h
        · rw [if_neg z2]
          exact i1
      · rw [if_neg z] at h
        exact absurd h z
    | 1, _ =>
      unfold cp at h ⊢
      simp only at h ⊢
      by_cases z : (cp g k f 2 e a).1 = true
      · rw [if_pos z] at h ⊢
        exact ih 4 e _ (ih 2 e a ha ha4 (by decide) z) (cp_pos f 2 e a ha4 (by decide) z).1 (by decide) h
      · rw [if_neg z] at h
        exact absurd h z
    | 2, _ =>
      unfold cp at h ⊢
      simp only at h ⊢
      by_cases z : (cp g k f 3 e a).1 = true
      · rw [if_pos z] at h ⊢
        exact ih 5 e _ (ih 3 e a ha ha4 (by decide) z) (cp_pos f 3 e a ha4 (by decide) z).1 (by decide) h
      · rw [if_neg z] at h
        exact absurd h z
    | 3, _ =>
      unfold cp at h ⊢
      simp only at h ⊢
      by_cases z : cp_h g k a = 45
      · rw [if_pos z] at h ⊢
        have hl := lk z (by decide)
        exact ih 3 e (a + 1) (by omega) (by omega) (by decide) h
      · rw [if_neg z] at h ⊢
        by_cases z2 : cp_h g k a = 40 ∧ e < 4
        · rw [if_pos z2] at h ⊢
          have hl := lk z2.1 (by decide)
          by_cases z3 : (cp g k f 0 (e + 1) (a + 1)).1 = true
          · rw [if_pos z3] at h ⊢
            by_cases z4 : cp_h g k (cp g k f 0 (e + 1) (a + 1)).2.1 = 41
            · rw [if_pos z4]
              have hl2 := lk z4 (by decide)
              show _ + 1 ≤ k
              omega
            · rw [if_neg z4] at h
              exact absurd h (by simp)
          · rw [if_neg z3] at h
            exact absurd h z3
        · rw [if_neg z2] at h ⊢
          by_cases z3 : cp_dg (cp_h g k a) = true
          · rw [if_pos z3]
            have hl := hT_lt (k := k) (g := g) (top := 40) (a := a) (dg_ne z3)
            have := nH_k (g := g) (k := k) 3 a 0 (by omega)
            show (cp_n g k 3 a 0).2 ≤ k
            omega
          · rw [if_neg z3] at h ⊢
            by_cases z4 : cp_nm (cp_h g k a) = 0
            · rw [if_pos z4] at h
              exact absurd h (by simp)
            · rw [if_neg z4]
              have hl := hT_lt (k := k) (g := g) (top := 40) (a := a) (nm_nd z4).2.2.2
              show a + 1 ≤ k
              omega
    | 4, _ =>
      unfold cp at h ⊢
      simp only at h ⊢
      by_cases z : cp_h g k a = 43 ∨ cp_h g k a = 45
      · rw [if_pos z] at h ⊢
        have hl : a < k ∧ a < 40 := by rcases z with w | w <;> exact lk w (by decide)
        by_cases z2 : (cp g k f 2 e (a + 1)).1 = true
        · rw [if_pos z2] at h ⊢
          exact ih 4 e _ (ih 2 e (a + 1) (by omega) (by omega) (by decide) z2) (cp_pos f 2 e (a + 1) (by omega) (by decide) z2).1 (by decide) h
        · rw [if_neg z2] at h
          exact absurd h z2
      · rw [if_neg z]
        exact ha
    | 5, _ =>
      unfold cp at h ⊢
      simp only at h ⊢
      by_cases z : cp_h g k a = 42
      · rw [if_pos z] at h ⊢
        have hl := lk z (by decide)
        by_cases z2 : (cp g k f 3 e (a + 1)).1 = true
        · rw [if_pos z2] at h ⊢
          exact ih 5 e _ (ih 3 e (a + 1) (by omega) (by omega) (by decide) z2) (cp_pos f 3 e (a + 1) (by omega) (by decide) z2).1 (by decide) h
        · rw [if_neg z2] at h
          exact absurd h z2
      · rw [if_neg z]
        exact ha
/-- the reference reads its text -/
theorem S_priceM {D k : Nat} (hD : 405 ≤ D) (μ ν : m2M) (hv : vM μ ν) (hk80 : k ≤ 80) (h19 : μ.1 kM 19 = nI k) (tx : txC μ (μ.1 kM_text)) : m2_MT D yX12_price cX12_price 3 (some .int) [.ref kM] ν (fun r μ' => (okP (μ.1 kM_text) k ∧ r = some (.int 0) ∧ vM (m2_si (m2_sr (m2_si μ kM 19 0) kM_price (lft (μ.1 kM_price) (μ.1 kM_text) k)) kM 29 (nI k)) μ' ∧ frM ν μ') ∨ (¬ okP (μ.1 kM_text) k ∧ r = some (.int (-1 - nI (cp (μ.1 kM_text) k 400 0 0 0).2.1)) ∧ vM (m2_si μ kM 19 0) μ' ∧ frM ν μ')) := by
  obtain ⟨D, rfl⟩ : ∃ E, D = E + 1 := ⟨D - 1, by omega⟩
  refine m2_MT.intro (ls := [.ref kM, .null, .null]) (by decide +kernel) rfl (ble rfl) (fun κ hk => ?_)
  have e19 : ν.1 kM 19 = nI k := (hv.1 kM 19 rfl rfl).trans h19
  refine B_X12_price_0 hk (Nat.zero_le _) ⟨fun _ μ' => μ' = m2_si (m2_si (m2_si (m2_si (m2_si (m2_si ν kM 22 0) kM 23 (nI kM_text)) kM 24 (ν.1 kM 19)) kM 25 40) kM 26 0) kM 27 (-1), ?_, fun μ2 e2 => ?_⟩
  · refine m2_MT.intro (ls := [.ref kM, .ref kM_text, .int (ν.1 kM 19), .int 40]) (by decide +kernel) rfl (ble rfl) (fun κ hk => ?_)
    exact B_X12_begin_0 hk (cB := kM_text) (by decide) rfl
  rw [e19] at e2 ⊢
  have v2 : vM μ μ2 := by rw [e2]; exact vM_si rfl (vM_si rfl (vM_si rfl (vM_si rfl (vM_si rfl (vM_si rfl hv)))))
  have f2 : frM ν μ2 := by rw [e2]; exact fr_si rfl (fr_si rfl (fr_si rfl (fr_si rfl (fr_si rfl (fr_si rfl fr.rf)))))
  generalize hM : m2_si (m2_si μ2 kM 19 0) kM 30 (-1) = M
  have vM0 : vM (m2_si μ kM 19 0) M := by rw [← hM]; exact vM_si rfl (v2.si rfl)
  have fM : frM ν M := by rw [← hM]; exact fr_si rfl (fr_si rfl f2)
  have m30 : M.1 kM 30 = -1 := by rw [← hM]; rfl
  have m23 : M.1 kM 23 = nI kM_text := by rw [← hM, e2]; rfl
  have m24 : M.1 kM 24 = nI k := by rw [← hM, e2]; rfl
  have m25 : M.1 kM 25 = nI 40 := by rw [← hM, e2]; rfl
  have m26 : M.1 kM 26 = nI 0 := by rw [← hM, e2]; rfl
  have m27 : M.1 kM 27 = -1 := by rw [← hM, e2]; rfl
  have eT : M.1 kM_text = μ.1 kM_text := funext fun j => vM0.1 kM_text j rfl rfl
  -- it is taken
  have take : okP (μ.1 kM_text) k → k ≤ 40 → ∀ X : m2M, vM (m2_si μ kM 19 0) X → frM ν X → κ 73 [.ref kM, .int (nI k), .int 0] [] X := by
    intro hok hk40 X vX fX
    have q := dn (n := k) (G := fun i => κ 73 [.ref kM, .int (nI k), .int (nI i)] [] (m2_sr X kM_price (lft (X.1 kM_price) (fun i => vp_nar .byte (X.1 kM_text i)) i))) ?_ (fun i hi ih => ?_)
    · rw [lft_0, m2_sr_id] at q
      exact q
    · refine B_X12_price_73 hk ⟨fun _ => Or.inl ⟨hok, rfl, ?_, fr_si rfl (fr_sr rfl fX)⟩, fun w => absurd (nI_le (Nat.le_refl _) (by omega)) w⟩
      refine vM.si (vX.sr (by decide) (fun j _ => ?_)) rfl
      unfold lft
      by_cases z : j < k
      · rw [if_pos z, if_pos z]
        have e1 : X.1 kM_text j = μ.1 kM_text j := vX.1 kM_text j rfl rfl
        obtain ⟨b, hb, _, e2⟩ := tx j (by omega)
        show vp_nar .byte (X.1 kM_text j) = μ.1 kM_text j
        rw [e1, e2]
        exact nar_byte ⟨b, hb⟩
      · rw [if_neg z, if_neg z]
        exact vX.1 kM_price j rfl rfl
    · refine B_X12_price_73 hk ⟨fun w => absurd w (nI_ge hi (by omega)), fun _ => ⟨vp_in_nI (by omega) (by decide), vp_in_nI (by omega) (by decide), ?_⟩⟩
      rw [nI_clamp (by omega), nI_1, m2_si_sr, m2_sr_ne _ _ (by decide)]
      have e : upd (lft (X.1 kM_price) (fun i => vp_nar .byte (X.1 kM_text i)) i) i (vp_nar .byte (X.1 kM_text i)) = lft (X.1 kM_price) (fun i => vp_nar .byte (X.1 kM_text i)) (i + 1) := lft_s ..
      rw [e]
      exact ih
  by_cases hk0 : k = 0
  · refine ⟨fun _ => take (Or.inl hk0) (by omega) M vM0 fM, fun w => absurd (by rw [hk0]; decide) w⟩
  · refine ⟨fun w => absurd w (nI_nle (by omega) (by omega)), fun _ => ?_⟩
    have eM : ps M 0 (-1) = M := by
      unfold ps
      rw [m2_si_id m26, m2_si_id m27]
    have key := (S_pr (k := k) (g := μ.1 kM_text) (env := fun _ => 0) M ⟨⟨m24, hk80, m25, by decide⟩, Or.inl ⟨m23, eT.symm⟩⟩ (Or.inl ⟨m30, fun _ => rfl⟩) 400).1 D 0 0 (by omega) (by decide) (by decide) (Or.inr (by decide))
    rw [eM] at key
    refine ⟨_, key, fun y7 μ8 r8 => ?_⟩
    obtain ⟨v, ev, r8⟩ := r8
    have vps : ∀ (b : Nat) (w : Int32), vM (m2_si μ kM 19 0) (ps M b w) ∧ frM ν (ps M b w) := fun b w => ⟨vM_si rfl (vM_si rfl vM0), fr_si rfl (fr_si rfl fM)⟩
    have p26 : ∀ (b : Nat) (w : Int32), (ps M b w).1 kM 26 = nI b := fun b w => by unfold ps; rw [si_nj _ _ _ (by decide), si_at]
    have p27 : ∀ (b : Nat) (w : Int32), (ps M b w).1 kM 27 = w := fun b w => by unfold ps; rw [si_at]
    rcases r8 with ⟨z1, z2, _⟩ | ⟨z1, z2, z3⟩
    · have b40 := (cp_pos (g := μ.1 kM_text) (k := k) 400 0 0 0 (by decide) (by decide) z1).1
      have bk := cp_k (g := μ.1 kM_text) (k := k) 400 0 0 0 (Nat.zero_le _) (by decide) (by decide) z1
      rw [z2, p26]
      by_cases hb : (cp (μ.1 kM_text) k 400 0 0 0).2.1 = k
      · refine ⟨fun _ => ⟨fun _ => take (Or.inr ⟨z1, hb⟩) (by omega) _ (vps _ _).1 (vps _ _).2, fun w => absurd ((ps_fine M _ _).mpr rfl) w⟩, fun w => absurd (by rw [hb]; exact nI_le (Nat.le_refl _) (by omega)) w⟩
      · have hno : ¬ okP (μ.1 kM_text) k := fun w => w.elim hk0 (fun w => hb w.2)
        refine ⟨fun w => absurd w (nI_ge (by omega) (by omega)), fun _ => ⟨_, S_fault (by omega) M, fun μ18 e18 => ?_⟩⟩
        subst e18
        rw [if_pos rfl]
        refine ⟨fun w => absurd ((ps_fine M _ _).mp w) (nI_ne_m1 (by omega)), fun _ => Or.inr ⟨hno, by rw [p27], (vps _ _).1, (vps _ _).2⟩⟩
    · have hno : ¬ okP (μ.1 kM_text) k := fun w => w.elim hk0 (fun w => by rw [z1] at w; exact absurd w.1 (by decide))
      rw [z2, p26]
      refine ⟨fun _ => ⟨fun w => absurd ((ps_fine M _ _).mp w) (nI_ne_m1 (by omega)), fun _ => Or.inr ⟨hno, by rw [p27], (vps _ _).1, (vps _ _).2⟩⟩, fun _ => ⟨_, S_fault (by omega) M, fun μ18 e18 => ?_⟩⟩
      subst e18
      rw [if_neg (nI_ne_m1 (by omega))]
      exact ⟨fun w => absurd ((ps_fine M _ _).mp w) (nI_ne_m1 (by omega)), fun _ => Or.inr ⟨hno, by rw [p27], (vps _ _).1, (vps _ _).2⟩⟩
set_option maxHeartbeats 2000000 in
theorem T_price {D : Nat} (hD : 406 ≤ D) (μ : m2M) (h : REL μ) : stps D yX11_price cX11_price 2 (some .int) yX12_price cX12_price 3 (some .int) [] μ REL := by
  obtain ⟨D, rfl⟩ : ∃ E, D = E + 1 := ⟨D - 1, by omega⟩
  obtain ⟨n, p, hR⟩ := id h
  have hR : RLn μ μ n p := hR
  obtain ⟨k, t1, t2, t3, t4⟩ := id hR.2.2.1
  have tx : txC μ (μ.1 kM_text) := fun i hi => t4 i hi
  -- the reference's text in its own row
  let pr : Nat → Int32 := lft (μ.1 kM_price) (μ.1 kM_text) k
  let ρ1 : m2M := m2_si (m2_sr (m2_si μ kM 19 0) kM_price pr) kM 29 (nI k)
  by_cases ok : okP (μ.1 kM_text) k
  · have hk40 : k ≤ 40 := by
      rcases ok with z | z
      · omega
      · have := (cp_pos (g := μ.1 kM_text) (k := k) 400 0 0 0 (by decide) (by decide) z.1).1
        omega
    refine T_ofs (some (.int 0)) ρ1 ?_ (fun ν hv => ?_)
    · refine m2_MTs.intro (ls := [.ref kC, .null]) (by decide +kernel) rfl (ble rfl) (fun κ hs => ?_)
      refine Bs_X11_price_0 hs ?_
      rw [t2]
      refine ⟨_, S_readP (by omega) μ tx t1, fun y1 μ2 h2 => ?_⟩
      rcases h2 with ⟨_, e1, μ6, f, f6, e6, l6, c6⟩ | ⟨n1, _⟩
      · cases e1
        subst e6
        have hR6 := hR.c f6.j.1
        obtain ⟨h1, h2, h3, h4, h5, h6, h7, h8, h9⟩ := id hR6
        refine ⟨rfl, ⟨n, p, h1, h2, ⟨0, by decide, rfl, rfl, ?_⟩, h4, h5, ?_, h7, h8, ⟨k, rwP (μ.1 kM_text) k, hk40, rfl, ?_, l6, rfl, fun i c hi => ?_, ?_⟩, ?_⟩, ?_⟩
        · obtain ⟨_, _, _, _, z⟩ := h3
          exact z
        · exact r_K_c (Or.inl (by decide)) (r_K_c (Or.inl (by decide)) (r_K_c (Or.inl (by decide)) (r_K_c (Or.inl (by decide)) (r_K_m rfl (r_K_m rfl (r_K_m rfl h6))))))
        · unfold rwP
          by_cases z : k = 0
          · exact Or.inl ⟨z, by rw [if_pos z]⟩
          · obtain ⟨g1, g2⟩ := ok.resolve_left z
            refine Or.inr ⟨by omega, by rw [if_neg z]; exact cp_ne g1, ?_⟩
            have e : cp_h (ρ1.1 kM_price) k = cp_h (μ.1 kM_text) k := by
              funext a
              show (if a < k ∧ a < 40 then ρ1.1 kM_price a else -1) = (if a < k ∧ a < 40 then μ.1 kM_text a else -1)
              by_cases y : a < k ∧ a < 40
              · rw [if_pos y, if_pos y]
                show lft (μ.1 kM_price) (μ.1 kM_text) k a = _
                unfold lft
                rw [if_pos y.1]
              · rw [if_neg y, if_neg y]
            rw [if_neg z]
            have := cp_congr e 400 0 0 0
            rw [this]
            exact Prod.ext g1 (Prod.ext g2 rfl)
        · show (m2_si (m2_si (m2_si (m2_sr μ6 kE_code f) kE 3 (if (-6) ∈ rwP (μ.1 kM_text) k then 1 else 0)) kE 2 (nI (rwP (μ.1 kM_text) k).length)) kC 1 0).1 kE_code i = c
          rw [si_nc _ _ _ (by decide), si_nc _ _ _ (by decide), si_nc _ _ _ (by decide), m2_sr_same]
          exact c6 i c hi
        · show (m2_si (m2_si (m2_si (m2_sr μ6 kE_code f) kE 3 (if (-6) ∈ rwP (μ.1 kM_text) k then 1 else 0)) kE 2 (nI (rwP (μ.1 kM_text) k).length)) kC 1 0).1 kE 3 = _
          rw [si_nc _ _ _ (by decide), si_nj _ _ _ (by decide), si_at]
        · exact h9.2
        · exact fr_si rfl (fr_si rfl (fr_si rfl (fr_sr rfl f6.j.2)))
      · exact absurd ok n1
    · refine (S_priceM (by omega) μ ν hv t1 t3 tx).mono ?_
      rintro r μ' (⟨_, e1, e2, e3⟩ | ⟨n1, _⟩)
      · exact ⟨e1, e2, e3⟩
      · exact absurd ok n1
  · refine T_ofs (some (.int (-1 - nI (cp (μ.1 kM_text) k 400 0 0 0).2.1))) (m2_si μ kM 19 0) ?_ (fun ν hv => ?_)
    · refine m2_MTs.intro (ls := [.ref kC, .null]) (by decide +kernel) rfl (ble rfl) (fun κ hs => ?_)
      refine Bs_X11_price_0 hs ?_
      rw [t2]
      refine ⟨_, S_readP (by omega) μ tx t1, fun y1 μ2 h2 => ?_⟩
      rcases h2 with ⟨n1, _⟩ | ⟨_, e1, f6⟩
      · exact absurd n1 ok
      · have e0 := Value.int.inj (Option.some.inj e1)
        subst e0
        have hR6 := hR.c f6.j.1
        obtain ⟨h1, h2, h3, h4, h5, h6, h7, h8, h9⟩ := id hR6
        refine ⟨rfl, ⟨n, p, h1, h2, ⟨0, by decide, rfl, rfl, ?_⟩, h4, h5, ?_, h7, h8, h9⟩, fr_si rfl f6.j.2⟩
        · obtain ⟨_, _, _, _, z⟩ := h3
          exact z
        · exact r_K_c (Or.inl (by decide)) (r_K_m rfl h6)
    · refine (S_priceM (by omega) μ ν hv t1 t3 tx).mono ?_
      rintro r μ' (⟨n1, _⟩ | ⟨_, e1, e2, e3⟩)
      · exact absurd n1 ok
      · exact ⟨e1, e2, e3⟩
