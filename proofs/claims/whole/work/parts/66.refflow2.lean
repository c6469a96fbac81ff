/-! the reference's flow: a least cut -/
def isGm (c : Nat) : Bool := (c == kM_cameFrom) || (c == kM_queue) || (c == kM_can)
theorem isB_G {μ ν : m2M} (h : fr isB μ ν) : fr isGm μ ν := h.mo (fun c q => by
  unfold isGm at q
  simp only [Bool.or_eq_false_iff] at q
  unfold isB
  rw [q.1.1, q.1.2]
  rfl)
def flR (c : Nat → Nat) (frm to : Nat) (r : Option Value) (μ' : m2M) : Prop := ∃ (V : Nat) (R : Nat → Bool), r = some (.int (nI V)) ∧ V ≤ 784000 ∧ mcP (cutC c) frm to V R ∧ (∀ x, x < 14 → (μ'.1 kM_cameFrom x = -1 ↔ R x = false))
theorem cutC_le {c : Nat → Nat} (h : ckM c) (X : Nat → Bool) : cutC c X ≤ 784000 := by
  have : cutC c X ≤ sumN (fun _ => 4000) 196 := by
    refine sumN_le (fun k hk => ?_)
    have := h.le hk
    split <;> omega
  rw [sumN_const] at this
  omega
set_option maxHeartbeats 2000000 in
theorem S_flow {D frm to : Nat} {c0 : Nat → Nat} (hD : 2 ≤ D) (μ : m2M) (hc0 : ∀ k, k < 196 → μ.1 kM_can k = nI (c0 k)) (hb0 : ckM c0) (hfrm : frm < 14) (hto : to < 14) (hne : frm ≠ to) : m2_MT D yX12_flow cX12_flow 6 (some .int) [.ref kM, .int (nI frm), .int (nI to)] μ (fun r μ' => fr isGm μ μ' ∧ flR c0 frm to r μ') := by
  obtain ⟨D, rfl⟩ : ∃ E, D = E + 1 := ⟨D - 1, by omega⟩
  refine m2_MT.intro (ls := [.ref kM, .int (nI frm), .int (nI to), .null, .null, .null]) (by decide +kernel) rfl (ble rfl) (fun κ hk => ?_)
  refine B_X12_flow_0 hk ?_
  have go : ∀ (k s : Nat) (c : Nat → Nat) (M : m2M), s + k = 784000 → fr isGm μ M → (∀ k, k < 196 → M.1 kM_can k = nI (c k)) → ckM c → (∀ X : Nat → Bool, X frm = true → X to = false → cutC c X + s = cutC c0 X) → κ 2 [.ref kM, .int (nI frm), .int (nI to), .int (nI s), .null, .null] [] M := by
    intro k
    induction k using Nat.strongRecOn with
    | _ k ih =>
      intro s c M hs hfr hc hb hcut
      refine B_X12_flow_2 hk ⟨_, S_findMore M hc hb hfrm hto, fun y1 M2 hq => ?_⟩
      obtain ⟨f2, R, r1, r2, r3, r4, r5, r6⟩ := hq
      have hfr2 := hfr.tr (isB_G f2)
      have hc2 : ∀ k, k < 196 → M2.1 kM_can k = nI (c k) := fun k hk => by rw [(f2 kM_can rfl).1]; exact hc k hk
      rcases r6 with ⟨e, hto'⟩ | ⟨e, l, ix, hl⟩
      · cases e
        refine ⟨fun _ => ⟨hfr2, s, R, rfl, by omega, ⟨r2, hto', ?_, fun X h1 h2 => ?_, fun X h1 h2 h3 => ?_⟩, r1⟩, fun w => absurd rfl w⟩
        · rw [← hcut R r2 hto', cutC_0 r3, Nat.zero_add]
        · have := hcut X h1 h2
          omega
        · have := hcut X h1 h2
          exact r5 X h1 (closM_of (by omega))
      · cases e
        refine ⟨fun w => absurd w (by decide), fun _ => ?_⟩
        -- what is pushed
        have hpos := minM_pos (v := 100000000) hl (by decide)
        obtain ⟨hle, hleM⟩ := minM_le (c := c) (l := l) (r := to) (v := 100000000)
        generalize hN : minM c l to 100000000 = n at hpos hle hleM
        have push : ∀ (l : List Nat) (r : Nat) (c' : Nat → Nat) (M3 : m2M), fr isGm μ M3 → (∀ x, M3.1 kM_cameFrom x = M2.1 kM_cameFrom x) → (∀ k, k < 196 → M3.1 kM_can k = nI (c' k)) → ckM c' → bpm c' ix (M2.1 kM_cameFrom) frm l r → leM n c' l r → (∀ X : Nat → Bool, cutC (pshM n l r c') X + (if X frm = true then n else 0) = cutC c X + (if X to = true then n else 0)) → κ 64 [.ref kM, .int (nI frm), .int (nI to), .int (nI s), .int (nI n), .int (nI r)] [] M3 := by
          intro l
          induction l with
          | nil =>
            intro r c' M3 g1 g2 g3 g4 g5 g6 g7
            have g5 : r = frm := g5
            subst g5
            refine B_X12_flow_64 hk ⟨fun _ => ?_, fun w => absurd rfl w⟩
            rw [nI_add]
            have hcut' : ∀ X : Nat → Bool, X r = true → X to = false → cutC c' X + (s + n) = cutC c0 X := by
              intro X h1 h2
              have e1 := hcut X h1 h2
              have e2 : cutC c' X + (if X r = true then n else 0) = cutC c X + (if X to = true then n else 0) := g7 X
              rw [if_pos h1, if_neg (by rw [h2]; decide)] at e2
              omega
            have hlim := hcut' (fun x => decide (x = r)) (by simp) (by simpa using fun e => hne e.symm)
            have hlim2 := cutC_le hb0 (fun x => decide (x = r))
            exact ih (784000 - (s + n)) (by omega) (s + n) c' M3 (by omega) g1 g3 g4 hcut'
          | cons u l ihl =>
            intro r c' M3 g1 g2 g3 g4 g5 g6 g7
            obtain ⟨b1, b2, b3, b4, b5, b6, b7⟩ := g5
            obtain ⟨d1, d2⟩ := g6
            have hur : u ≠ r := fun e => by rw [e] at b5; omega
            obtain ⟨j1, j2⟩ := bpm_o (n := n) b3 b2 b5 b7 d2
            have hck := stpM_ck g4 b3 b2 hur d1
            refine B_X12_flow_64 hk ⟨fun w => absurd ((nI_eq (by omega) (by omega)).mp w) b1, fun _ => ⟨vp_in_nI b3 (by decide), ?_⟩⟩
            rw [nI_clamp (by omega), g2, b6, can_ix, can_ix, nI_clamp (by omega), nI_clamp (by omega)]
            refine ⟨vp_in_nI (by omega) (by decide), vp_in_nI (by omega) (by decide), ?_⟩
            rw [si_nj _ _ _ (show 14 * r + u ≠ 14 * u + r by omega), g3 _ (by omega), g3 _ (by omega), pk_sub d1, nI_add]
            refine ihl u (stpM n c' u r) _ (fr_si rfl (fr_si rfl g1)) (fun x => ?_) (fun k hk' => ?_) hck j1 j2 g7
            · rw [si_nc _ _ _ (by decide), si_nc _ _ _ (by decide)]
              exact g2 x
            · unfold stpM
              by_cases z : k = 14 * r + u
              · rw [z, si_at, updN_at]
              · rw [si_nj _ _ _ z, updN_ne z]
                by_cases z2 : k = 14 * u + r
                · rw [z2, si_at, updN_at]
                · rw [si_nj _ _ _ z2, updN_ne z2]
                  exact g3 k hk'
        have narrow : ∀ (l' : List Nat) (r v : Nat), v ≤ 100000000 → bpm c ix (M2.1 kM_cameFrom) frm l' r → minM c l' r v = n → κ 18 [.ref kM, .int (nI frm), .int (nI to), .int (nI s), .int (nI v), .int (nI r)] [] M2 := by
          intro l'
          induction l' with
          | nil =>
            intro r v hv h1 h2
            have h1 : r = frm := h1
            have h2 : v = n := h2
            subst h1 h2
            refine B_X12_flow_18 hk (Nat.zero_le _) ⟨fun _ => ?_, fun w => absurd rfl w⟩
            exact push l to c M2 hfr2 (fun _ => rfl) hc2 hb hl hleM (pshM_all hl hleM hb).2
          | cons u l' ihl =>
            intro r v hv h1 h2
            obtain ⟨b1, b2, b3, b4, b5, b6, b7⟩ := h1
            have hle' := hb.le (k := 14 * u + r) (by omega)
            refine B_X12_flow_18 hk (Nat.zero_le _) ⟨fun w => absurd ((nI_eq (by omega) (by omega)).mp w) b1, fun _ => ⟨vp_in_nI b3 (by decide), ?_⟩⟩
            rw [nI_clamp (by omega), b6, can_ix, nI_clamp (by omega), hc2 _ (by omega), min_nI (by omega) (by omega)]
            refine ⟨vp_in_nI (by omega) (by decide), ?_⟩
            exact ihl u (min v (c (14 * u + r))) (by omega) b7 h2
        exact narrow l to 100000000 (Nat.le_refl _) hl hN
  exact go 784000 0 c0 μ (Nat.zero_add _) fr.rf hc0 hb0 (fun X _ _ => Nat.add_zero _)
/-- nothing is laid -/
theorem S_clearFlow {D : Nat} (μ : m2M) : m2_MT D yX12_clearFlow cX12_clearFlow 2 none [.ref kM] μ (fun _ μ' => fr isGm μ μ' ∧ ∀ k, k < 196 → μ'.1 kM_can k = nI 0) := by
  refine m2_MT.intro (ls := [.ref kM, .null]) (by decide +kernel) rfl (ble rfl) (fun κ hk => ?_)
  refine B_X12_clearFlow_0 hk ?_
  refine dn (n := 196) (G := fun i => ∀ M, fr isGm μ M → (∀ x, x < i → M.1 kM_can x = nI 0) → κ 2 [.ref kM, .int (nI i)] [] M) (fun M hM hx => ?_) (fun i hi ih M hM hx => ?_) μ fr.rf (fun x hx => absurd hx (Nat.not_lt_zero x))
  · exact B_X12_clearFlow_2 hk ⟨fun _ => ⟨hM, hx⟩, fun w => absurd (nI_le (Nat.le_refl 196) (by decide)) w⟩
  · refine B_X12_clearFlow_2 hk ⟨fun w => absurd w (nI_ge (b := 196) hi (by decide)), fun _ => ⟨vp_in_nI hi (by decide), ?_⟩⟩
    rw [nI_clamp (by omega), nI_1]
    refine ih _ (fr_si rfl hM) (fun x hx' => ?_)
    by_cases e : x = i
    · subst e; rw [si_at]; rfl
    · rw [si_nj _ _ _ e]; exact hx x (by omega)
/-- a DOOR is laid -/
def layN (c : Nat → Nat) (a b : Nat) (t : Bool) (v : Nat) : Nat → Nat := if t = true then updN (updN c (14 * a + b) (c (14 * a + b) + v)) (14 * b + a) (c (14 * b + a) + v) else updN c (14 * a + b) (c (14 * a + b) + v)
theorem layN_cut {c : Nat → Nat} {a b v : Nat} {t : Bool} (X : Nat → Bool) (ha : a < 14) (hb : b < 14) (hne : a ≠ b) : cutC (layN c a b t v) X = cutC c X + (if X a = true ∧ X b = false then v else if X b = true ∧ X a = false then (if t = true then v else 0) else 0) := by
  have e1 := cutC_upd (c := c) (k := 14 * a + b) (v := c (14 * a + b) + v) X (by omega)
  rw [crs_of X hb] at e1
  unfold layN
  cases t with
  | false =>
    rw [if_neg (by decide)]
    revert e1
    cases e3 : X a <;> cases e4 : X b <;> simp <;> omega
  | true =>
    have e2 := cutC_upd (c := updN c (14 * a + b) (c (14 * a + b) + v)) (k := 14 * b + a) (v := c (14 * b + a) + v) X (by omega)
    rw [updN_ne (show 14 * b + a ≠ 14 * a + b by omega), crs_of X ha] at e2
    rw [if_pos rfl]
    revert e1 e2
    cases e3 : X a <;> cases e4 : X b <;> simp <;> omega
theorem layN_le {c : Nat → Nat} {a b v N : Nat} {t : Bool} (hne : a ≠ b) (ha : a < 14) (hb : b < 14) (h : ∀ k, k < 196 → c k ≤ N) : ∀ k, k < 196 → layN c a b t v k ≤ N + v := by
  intro k hk
  have h0 := h k hk
  have h1 := h (14 * a + b) (by omega)
  have h2 := h (14 * b + a) (by omega)
  unfold layN updN
  split
  · simp only
    split
    · omega
    · split <;> omega
  · simp only
    split <;> omega
