/-! the reference's findWay: the same row of DOORS, by its own costs -/
theorem m2_sl_sl (μ : m2M) (c : Nat) (f g : Nat → Int64) : m2_sl (m2_sl μ c f) c g = m2_sl μ c g := m2_ext (fun _ => rfl) (fun c' => by by_cases h : c' = c <;> simp [m2_sl, h])
theorem m2_sl_id (μ : m2M) (c : Nat) : m2_sl μ c (μ.2 c) = μ := m2_ext (fun _ => rfl) (fun c' => by by_cases h : c' = c <;> simp [m2_sl, h])
theorem upd_upd (f : Nat → Int32) (j : Nat) (x y : Int32) : upd (upd f j x) j y = upd f j y := by
  funext k
  unfold upd
  by_cases h : k = j <;> simp [h]
theorem m2_si_si (μ : m2M) (c j : Nat) (x y : Int32) : m2_si (m2_si μ c j x) c j y = m2_si μ c j y := by
  unfold m2_si
  rw [m2_sr_same, upd_upd, m2_sr_sr]
theorem m2_si_comm (μ : m2M) {c c' : Nat} (h : c ≠ c') (j j' : Nat) (x y : Int32) : m2_si (m2_si μ c j x) c' j' y = m2_si (m2_si μ c' j' y) c j x := by
  unfold m2_si
  rw [m2_sr_ne μ _ (Ne.symm h), m2_sr_ne μ _ h, m2_sr_comm μ _ _ h]
theorem lN_minl {a b : Nat} (ha : a < 2 ^ 63) (hb : b < 2 ^ 63) : m2_minl (lN a) (lN b) = lN (if b < a then b else a) := by
  unfold m2_minl
  by_cases h : b < a
  · rw [if_pos ((pk_lLT hb ha).mpr h), if_pos h]
  · rw [if_neg (fun z => h ((pk_lLT hb ha).mp z)), if_neg h]
theorem lN_cmp_lt {a b : Nat} (ha : a < 2 ^ 63) (hb : b < 2 ^ 63) : lg_cmp (lN a) (lN b) < 0 ↔ a < b := by
  unfold lg_cmp
  by_cases h1 : b < a
  · rw [if_pos (show lN a > lN b from (pk_lLT hb ha).mpr h1)]
    constructor
    · intro q; exact absurd q (by decide)
    · intro q; omega
  · rw [if_neg (fun z => h1 ((pk_lLT hb ha).mp z))]
    by_cases h2 : a = b
    · rw [if_pos (by rw [h2])]
      constructor
      · intro q; exact absurd q (by decide)
      · intro q; omega
    · rw [if_neg (fun z => h2 ((pk_lEQ ha hb).mp z))]
      constructor
      · intro _; omega
      · intro _; decide
theorem lN_cmp_eq {a b : Nat} (ha : a < 2 ^ 63) (hb : b < 2 ^ 63) : lg_cmp (lN a) (lN b) = 0 ↔ a = b := by
  unfold lg_cmp
  by_cases h1 : b < a
  · rw [if_pos (show lN a > lN b from (pk_lLT hb ha).mpr h1)]
    constructor
    · intro q; exact absurd q (by decide)
    · intro q; omega
  · rw [if_neg (fun z => h1 ((pk_lLT hb ha).mp z))]
    by_cases h2 : a = b
    · rw [if_pos (by rw [h2])]
      exact ⟨fun _ => h2, fun _ => rfl⟩
    · rw [if_neg (fun z => h2 ((pk_lEQ ha hb).mp z))]
      constructor
      · intro q; exact absurd q (by decide)
      · intro q; exact absurd q h2
theorem fX12_step_nI {s : Nat} (h : s < 2 ^ 31) : fX12_step (nI s) = lN (s * 1000 + 1) := by
  unfold fX12_step
  rw [nI_l h, show (1000 : Int64) = lN 1000 from by decide, lN_mul, lN_1]
/-- the reference's DOORS, and its costs -/
def mg (μ : m2M) (n : Nat) (A B : Nat → Nat) (T : Nat → Bool) : Prop := μ.1 kM 0 = nI n ∧ n ≤ 20 ∧ ∀ d, d < n → μ.1 kM_doorA d = nI (A d) ∧ A d < 12 ∧ μ.1 kM_doorB d = nI (B d) ∧ B d < 12 ∧ A d ≠ B d ∧ μ.1 kM_isOneWay d = (if T d = true then 0 else 1)
def mc_ (μ : m2M) (n : Nat) (C : Nat → Nat) : Prop := ∀ d, d < n → (μ.1 kM_cost d = 100000000 ∧ C d = 0) ∨ ∃ s, s ≤ 9999 ∧ μ.1 kM_cost d = nI s ∧ C d = s * 1000 + 1
theorem nI_far : nI 100000000 = 100000000 := by decide
theorem mg_beyond {μ : m2M} {n : Nat} {A B : Nat → Nat} {T : Nat → Bool} (hg : mg μ n A B T) {d u : Nat} (hd : d < n) (hu : u < 12) : fX12_beyond (nI d) (nI u) μ = if A d = u then nI (B d) else if B d = u ∧ T d = true then nI (A d) else -1 := by
  obtain ⟨ea, hA, eb, hB, hab, et⟩ := hg.2.2 d hd
  have hn := hg.2.1
  unfold fX12_beyond
  rw [nI_clamp (by omega), ea, eb, et]
  by_cases h1 : A d = u
  · rw [if_pos (by rw [h1]), if_pos h1]
  · rw [if_neg (fun z => h1 ((nI_eq (by omega) (by omega)).mp z)), if_neg h1]
    by_cases h2 : B d = u
    · rw [if_pos (by rw [h2])]
      cases hT : T d with
      | true => simp [h2]
      | false => simp
    · rw [if_neg (fun z => h2 ((nI_eq (by omega) (by omega)).mp z)), if_neg (fun z => h2 z.1)]
theorem nI_ne_m1 {a : Nat} (h : a < 2 ^ 31) : ¬ nI a = -1 := by
  intro q
  have := nI_toInt h
  rw [q] at this
  have e : (-1 : Int32).toInt = -1 := by decide
  omega
set_option maxHeartbeats 4000000 in
theorem S_findWay {D n frm goal : Nat} (hD : 1 ≤ D) {A B : Nat → Nat} {T : Nat → Bool} {C : Nat → Nat} (μ : m2M) (hg : mg μ n A B T) (hc : mc_ μ n C) (hfrm : frm < 12) (hgoal : goal < 12) : m2_MT D yX12_findWay cX12_findWay 7 (some .boolean) [.ref kM, .int (nI frm), .int (nI goal)] μ (fun r μ' => ∃ (gl : Nat → Int64) (gw : Nat → Int32), match wy A B T C n 1125899906842624 frm goal with
    | none => r = some (.int 0) ∧ μ' = m2_si (m2_sl μ kM_far gl) kM 37 0
    | some l => r = some (.int 1) ∧ μ' = m2_si (m2_sr (m2_sl μ kM_far gl) kM_way gw) kM 37 (nI l.length) ∧ l.length ≤ 11 ∧ ∀ i d, l[i]? = some d → gw i = nI d ∧ d < n) := by
  obtain ⟨D, rfl⟩ : ∃ E, D = E + 1 := ⟨D - 1, by omega⟩
  have hg0 := hg
  obtain ⟨hn, hn20, hd⟩ := hg
  have hN : ∀ d, d < n → A d < 12 ∧ B d < 12 := fun d h => ⟨(hd d h).2.1, (hd d h).2.2.2.1⟩
  have hAB : ∀ d, d < n → A d ≠ B d := fun d h => (hd d h).2.2.2.2.1
  have hF := wy_F (T := T) (C := C) (far := 1125899906842624) hN hAB hgoal
  have hCb : ∀ d, d < n → C d ≤ 9999001 := by
    intro d h
    rcases hc d h with ⟨-, q⟩ | ⟨s, q1, -, q2⟩ <;> omega
  refine m2_MT.intro (ls := [.ref kM, .int (nI frm), .int (nI goal), .null, .null, .null, .null]) (by decide +kernel) rfl (Nat.le_of_ble_eq_true rfl) (fun κ h => ?_)
  generalize hff : wy_f A B T C n 1125899906842624 goal = f at *
  have cf : (nI frm).toNatClampNeg = frm := nI_clamp (by omega)
  -- the walk along the fixed point
  have walk : ∀ gl : Nat → Int64, (∀ u, u < 12 → gl u = lN (f u)) → f frm < 1125899906842624 → κ 199 [.ref kM, .int (nI frm), .int (nI goal), .int (nI frm), .null, .null, .null] [] (m2_si (m2_sl μ kM_far gl) kM 37 0) := by
    intro gl hgl hlt
    generalize hnx : (fun u => bf_nx (fun d => bf_tb A B T C f d u) n) = nx at *
    have loop : ∀ (k i u : Nat) (gw : Nat → Int32) (pre : List Nat), i + k = 12 → pre.length = i → u < 12 → f u < 1125899906842624 → bf_rk f u 12 + i ≤ 11 → (∀ j d, pre[j]? = some d → gw j = nI d ∧ d < n) → pre ++ bf_pt A B nx goal k u = bf_pt A B nx goal 12 frm → κ 199 [.ref kM, .int (nI frm), .int (nI goal), .int (nI u), .null, .null, .null] [] (m2_si (m2_sr (m2_sl μ kM_far gl) kM_way gw) kM 37 (nI i)) := by
      intro k
      induction k with
      | zero => intro i u gw pre h1 h2 h3 h4 h5; omega
      | succ k ih =>
        intro i u gw pre hik hpl hu hfu hrk hpre hpt
        refine B_X12_findWay_199 h ⟨fun q => ?_, fun q => ?_⟩
        · have hug : u = goal := (nI_eq (by omega) (by omega)).mp q
          refine ⟨gl, gw, ?_⟩
          have hw : wy A B T C n 1125899906842624 frm goal = some pre := by
            unfold wy
            rw [hff, if_pos hlt, hnx, ← hpt]
            simp [bf_pt, hug]
          rw [hw]
          exact ⟨rfl, by rw [hpl], by omega, hpre⟩
        · have hug : u ≠ goal := fun z => q (by rw [z])
          -- the DOOR that is due
          obtain ⟨v0, w0, ⟨e0, q1, q2, q3, q4⟩, q5⟩ := hF.2.2.2 u hug hfu
          have hp0 : bf_tb A B T C f e0 u = true := by
            refine bf_tb_iff.mpr ⟨q2, ?_⟩
            rcases q4 with ⟨rfl, rfl⟩ | ⟨t, rfl, rfl⟩
            · exact Or.inl ⟨rfl, by omega⟩
            · exact Or.inr ⟨t, rfl, by omega⟩
          obtain ⟨d0, hd0⟩ := bf_nx_ex (p := fun d => bf_tb A B T C f d u) q1 hp0
          obtain ⟨g1, g2, g3⟩ := bf_nx_some.mp hd0
          have hnu : nx u = some d0 := by rw [← hnx]; exact hd0
          have look : ∀ (j d : Nat), d + j = d0 → κ 207 [.ref kM, .int (nI frm), .int (nI goal), .int (nI u), .int (nI d), .null, .null] [] (m2_si (m2_sr (m2_sl μ kM_far gl) kM_way gw) kM 37 (nI i)) := by
            intro j
            induction j with
            | zero =>
              intro d hdj
              have hdj : d = d0 := by omega
              subst hdj
              obtain ⟨ea, hA, eb, hB, hab, et⟩ := hd d g1
              obtain ⟨c1, c2⟩ := bf_tb_iff.mp g2
              have cd : (nI d).toNatClampNeg = d := nI_clamp (by omega)
              rcases hc d g1 with ⟨-, z⟩ | ⟨s, s1, s2, s3⟩
              · exact absurd z c1
              have hby := mg_beyond hg0 g1 hu
              obtain ⟨v, hv1, hv2, hv3⟩ : ∃ v : Nat, v < 12 ∧ fX12_beyond (nI d) (nI u) μ = nI v ∧ f u = f v + C d ∧ (if A d = u then B d else A d) = v := by
                rcases c2 with ⟨rfl, z⟩ | ⟨t, rfl, z⟩
                · exact ⟨B d, hB, by rw [hby, if_pos rfl], z, by rw [if_pos rfl]⟩
                · exact ⟨A d, hA, by rw [hby, if_neg hab, if_pos ⟨rfl, t⟩], z, by rw [if_neg hab]⟩
              have e1 : (m2_si (m2_sr (m2_sl μ kM_far gl) kM_way gw) kM 37 (nI i)).1 kM_cost d = nI s := s2
              have e2 : fX12_beyond (nI d) (nI u) (m2_si (m2_sr (m2_sl μ kM_far gl) kM_way gw) kM 37 (nI i)) = nI v := hv2
              have e3 : (m2_si (m2_sr (m2_sl μ kM_far gl) kM_way gw) kM 37 (nI i)).2 kM_far = gl := m2_sl_same μ kM_far gl
              have e4 : (m2_si (m2_sr (m2_sl μ kM_far gl) kM_way gw) kM 37 (nI i)).1 kM 37 = nI i := rfl
              have hfv := hF.2.1 v
              have cv : (nI v).toNatClampNeg = v := nI_clamp (by omega)
              have cu : (nI u).toNatClampNeg = u := nI_clamp (by omega)
              have ci : (nI i).toNatClampNeg = i := nI_clamp (by omega)
              have hgv := hgl v hv1
              have hgu := hgl u hu
              have hsb : s * 1000 + 1 = C d := s3.symm
              refine B_X12_findWay_207 h (Nat.zero_le _) ?_
              rw [cd, e1, e2, e3, e4, cv, cu, ci, fX12_step_nI (by omega), hgv, hgu, lN_add, hsb]
              refine ⟨vp_in_nI (by omega) (by decide), fun z => absurd z (fun y => ?_), fun _ => ⟨fun z => absurd z (nI_ne_m1 (by omega)), fun _ => ⟨vp_in_nI hv1 (by decide), vp_in_nI hu (by decide), fun _ => ⟨vp_in_nI (by omega) (by decide), ?_⟩, fun z => absurd ((lN_cmp_eq (by omega) (by omega)).mpr hv3.1.symm) z⟩⟩⟩
              · rw [← nI_far] at y
                have := (nI_eq (by omega) (by decide)).mp y
                omega
              · have e5 : m2_si (m2_si (m2_si (m2_sr (m2_sl μ kM_far gl) kM_way gw) kM 37 (nI i)) kM_way i (nI d)) kM 37 (nI i + 1) = m2_si (m2_sr (m2_sl μ kM_far gl) kM_way (upd gw i (nI d))) kM 37 (nI (i + 1)) := by
                  rw [nI_1, m2_si_comm _ (show kM ≠ kM_way by decide), m2_si_si, m2_si_sr]
                have e6 : fX12_beyond (nI d) (nI u) (m2_si (m2_si (m2_si (m2_sr (m2_sl μ kM_far gl) kM_way gw) kM 37 (nI i)) kM_way i (nI d)) kM 37 (nI i + 1)) = nI v := hv2
                rw [e6, e5]
                have hrv : bf_rk f v 12 < bf_rk f u 12 := bf_rk_lt (by omega) hv1
                refine ih (i + 1) v (upd gw i (nI d)) (pre ++ [d]) (by omega) (by simp [hpl]) hv1 (by omega) (by omega) (fun j e hj => ?_) ?_
                · unfold upd
                  by_cases hji : j = i
                  · subst hji
                    rw [List.getElem?_append_right (by omega), hpl] at hj
                    simp at hj
                    rw [if_pos rfl, ← hj]
                    exact ⟨rfl, g1⟩
                  · rw [if_neg hji]
                    have hl2 : j < pre.length := by
                      have := (List.getElem?_eq_some_iff.mp hj).1
                      simp at this
                      omega
                    rw [List.getElem?_append_left hl2] at hj
                    exact hpre j e hj
                · rw [← hpt]
                  simp [bf_pt, hug, hnu, hv3.2]
            | succ j ihj =>
              intro d hdj
              have hlt0 : d < d0 := by omega
              have hdn : d < n := by omega
              obtain ⟨ea, hA, eb, hB, hab, et⟩ := hd d hdn
              have cd : (nI d).toNatClampNeg = d := nI_clamp (by omega)
              have cu : (nI u).toNatClampNeg = u := nI_clamp (by omega)
              have hnot := g3 d hlt0
              have go : κ 263 [.ref kM, .int (nI frm), .int (nI goal), .int (nI u), .int (nI d), .null, .null] [] (m2_si (m2_sr (m2_sl μ kM_far gl) kM_way gw) kM 37 (nI i)) := by
                refine B_X12_findWay_263 h ?_
                rw [nI_1]
                exact ihj (d + 1) (by omega)
              have hby := mg_beyond hg0 hdn hu
              have e2 : fX12_beyond (nI d) (nI u) (m2_si (m2_sr (m2_sl μ kM_far gl) kM_way gw) kM 37 (nI i)) = fX12_beyond (nI d) (nI u) μ := rfl
              have e3 : (m2_si (m2_sr (m2_sl μ kM_far gl) kM_way gw) kM 37 (nI i)).2 kM_far = gl := m2_sl_same μ kM_far gl
              refine B_X12_findWay_207 h (Nat.zero_le _) ⟨vp_in_nI (by omega) (by decide), fun _ => go, fun z0 => ⟨fun _ => go, fun z1 => ?_⟩⟩
              rw [e2] at z1 ⊢
              rw [e3]
              rcases hc d hdn with ⟨z, -⟩ | ⟨s, s1, s2, s3⟩
              · exact absurd (show (m2_si (m2_sr (m2_sl μ kM_far gl) kM_way gw) kM 37 (nI i)).1 kM_cost (nI d).toNatClampNeg = 100000000 by rw [cd]; exact z) z0
              have e1 : (m2_si (m2_sr (m2_sl μ kM_far gl) kM_way gw) kM 37 (nI i)).1 kM_cost (nI d).toNatClampNeg = nI s := by rw [cd]; exact s2
              obtain ⟨v, hv1, hv2, hv3⟩ : ∃ v : Nat, v < 12 ∧ fX12_beyond (nI d) (nI u) μ = nI v ∧ ((A d = u ∧ B d = v) ∨ (T d = true ∧ B d = u ∧ A d = v)) := by
                by_cases h1 : A d = u
                · exact ⟨B d, hB, by rw [hby, if_pos h1], Or.inl ⟨h1, rfl⟩⟩
                · by_cases h2 : B d = u ∧ T d = true
                  · exact ⟨A d, hA, by rw [hby, if_neg h1, if_pos h2], Or.inr ⟨h2.2, h2.1, rfl⟩⟩
                  · exact absurd (by rw [hby, if_neg h1, if_neg h2]) z1
              have hfv := hF.2.1 v
              have cv : (nI v).toNatClampNeg = v := nI_clamp (by omega)
              rw [hv2, cv, cu, e1, fX12_step_nI (by omega), hgl v hv1, hgl u hu, lN_add]
              refine ⟨vp_in_nI hv1 (by decide), vp_in_nI hu (by decide), fun z => ?_, fun _ => go⟩
              exfalso
              have hz := (lN_cmp_eq (by omega) (by omega)).mp z
              have : bf_tb A B T C f d u = true := by
                refine bf_tb_iff.mpr ⟨by omega, ?_⟩
                rcases hv3 with ⟨a1, a2⟩ | ⟨a0, a1, a2⟩
                · exact Or.inl ⟨a1, by rw [a2]; omega⟩
                · exact Or.inr ⟨a0, a1, by rw [a2]; omega⟩
              rw [hnot] at this
              cases this
          have e := look d0 0 (by omega)
          rw [nI_0] at e
          exact e
    have hr := bf_rk_self f frm hfrm
    have e := loop 12 0 frm (μ.1 kM_way) [] (by omega) rfl hfrm hlt (by omega) (fun j d hj => by simp at hj) (by simp)
    have e2 : m2_sr (m2_sl μ kM_far gl) kM_way (μ.1 kM_way) = m2_sl μ kM_far gl := m2_sr_id (m2_sl μ kM_far gl) kM_way
    rw [e2, nI_0] at e
    exact e
  -- the DOORS of one pass
  have inner : ∀ (i d : Nat) (v3 : Int32) (x0 : Nat → Nat) (g : Nat → Int64), d + i = n → (∀ u, x0 u ≤ 1125899906842624) → (∀ u, u < 12 → g u = lN (bf_ps A B T C d x0 u)) →
      (∀ (g' : Nat → Int64), (∀ u, u < 12 → g' u = lN (bf_ps A B T C n x0 u)) → κ 34 [.ref kM, .int (nI frm), .int (nI goal), .int (v3 + 1), .null, .null, .null] [] (m2_sl μ kM_far g')) →
      κ 43 [.ref kM, .int (nI frm), .int (nI goal), .int v3, .int (nI d), .null, .null] [] (m2_sl μ kM_far g) := by
    intro i
    induction i with
    | zero =>
      intro d v3 x0 g hdi hx0 hgx kk
      have hdn : d = n := by omega
      subst hdn
      exact B_X12_findWay_43 h (Nat.zero_le _) ⟨fun _ => kk g hgx, fun q => absurd (show μ.1 kM 0 ≤ nI d by rw [hn]; exact nI_le (Nat.le_refl d) (by omega)) q⟩
    | succ i ih =>
      intro d v3 x0 g hdi hx0 hgx kk
      have hlt : d < n := by omega
      obtain ⟨ea, hA, eb, hB, hab, et⟩ := hd d hlt
      have hCd := hCb d hlt
      have hle := fun u => bf_ps_bound (A := A) (B := B) (T := T) (C := C) (n := d) hx0 u
      have step : ∀ u, bf_ps A B T C (d + 1) x0 u = bf_rx (A d) (B d) (T d) (C d) (bf_ps A B T C d x0) u := fun _ => rfl
      have cl : (nI d).toNatClampNeg = d := nI_clamp (by omega)
      have ca : (nI (A d)).toNatClampNeg = A d := nI_clamp (by omega)
      have cb : (nI (B d)).toNatClampNeg = B d := nI_clamp (by omega)
      have e2 : (m2_sl μ kM_far g).1 kM_doorA d = nI (A d) := ea
      have e3 : (m2_sl μ kM_far g).1 kM_doorB d = nI (B d) := eb
      have e4 : (m2_sl μ kM_far g).1 kM_isOneWay d = (if T d = true then 0 else 1) := et
      have ga := hgx (A d) hA
      have gb := hgx (B d) hB
      have ha := hle (A d)
      have hb := hle (B d)
      generalize hxa : bf_ps A B T C d x0 (A d) = xa at *
      generalize hxb : bf_ps A B T C d x0 (B d) = xb at *
      have on : ∀ g' : Nat → Int64, (∀ u, u < 12 → g' u = lN (bf_ps A B T C (d + 1) x0 u)) → κ 165 [.ref kM, .int (nI frm), .int (nI goal), .int v3, .int (nI d), .null, .null] [] (m2_sl μ kM_far g') := by
        intro g' hg'
        refine B_X12_findWay_165 h ?_
        rw [nI_1]
        exact ih (d + 1) v3 x0 g' (by omega) hx0 hg' kk
      refine B_X12_findWay_43 h (Nat.zero_le _) ⟨fun q => absurd (show nI n ≤ nI d by rw [← hn]; exact q) (nI_ge hlt (by omega)), fun _ => ⟨vp_in_nI (by omega) (by decide), ?_, ?_⟩⟩
      · intro z0
        rcases hc d hlt with ⟨z, -⟩ | ⟨s, s1, s2, s3⟩
        · exact absurd (show (m2_sl μ kM_far g).1 kM_cost (nI d).toNatClampNeg = 100000000 by rw [cl]; exact z) z0
        have e1 : (m2_sl μ kM_far g).1 kM_cost (nI d).toNatClampNeg = nI s := by rw [cl]; exact s2
        have hc1 : C d ≠ 0 := by omega
        rw [e1, cl, e2, e3, e4, ca, cb]
        simp only [m2_sl_same, m2_sl_sl, fX12_step_nI (show s < 2 ^ 31 by omega), ← s3]
        have eA : vp_updL g (A d) (m2_minl (g (A d)) (g (B d) + lN (C d))) = vp_updL g (A d) (lN (if xb + C d < xa then xb + C d else xa)) := by
          rw [ga, gb, lN_add, lN_minl (by omega) (by omega)]
        rw [eA]
        refine ⟨vp_in_nI hA (by decide), vp_in_nI hB (by decide), fun ht => ?_, fun ht => ?_⟩
        · have hT : ¬ T d = true := fun z => ht (by rw [if_pos z])
          refine on _ (fun u hu => ?_)
          rw [step]
          unfold bf_rx vp_updL
          rw [if_neg hc1, hxa, hxb, if_neg (show ¬ (T d = true ∧ xa + C d < xb) from fun z => hT z.1)]
          by_cases hua : u = A d
          · subst hua
            by_cases hq : xb + C d < xa
            · simp [hq]
            · simp [hq, hxa]
          · by_cases hq : xb + C d < xa
            · simp [hq, hua, hgx u hu]
            · simp [hq, hua, hgx u hu]
        · have hT : T d = true := by
            cases hq : T d with
            | true => rfl
            | false => rw [hq] at ht; simp at ht
          refine on _ (fun u hu => ?_)
          rw [step]
          unfold bf_rx vp_updL
          rw [if_neg hc1, hxa, hxb]
          by_cases hq : xb + C d < xa
          · rw [if_pos hq, if_pos hq]
            by_cases hub : u = B d
            · subst hub
              simp [Ne.symm hab, gb, hxb]
              rw [lN_add, lN_minl (by omega) (by omega), if_neg (by omega)]
            · by_cases hua : u = A d
              · simp [hub, hua, hab]
              · simp [hub, hua, hgx u hu]
          · rw [if_neg hq, if_neg hq]
            by_cases hub : u = B d
            · subst hub
              by_cases hq2 : xa + C d < xb
              · simp [Ne.symm hab, gb, hT, hq2]
                rw [lN_add, lN_minl (by omega) (by omega), if_pos hq2]
              · simp [Ne.symm hab, gb, hT, hq2, hxb]
                rw [lN_add, lN_minl (by omega) (by omega), if_neg hq2]
            · by_cases hua : u = A d
              · subst hua
                by_cases hq2 : xa + C d < xb
                · simp [hub, hT, hq2, hxa]
                · simp [hub, hT, hq2, hxa]
              · by_cases hq2 : xa + C d < xb
                · simp [hub, hua, hT, hq2, hgx u hu]
                · simp [hub, hua, hT, hq2, hgx u hu]
      · intro z0
        have hc1 : C d = 0 := by
          rcases hc d hlt with ⟨-, z⟩ | ⟨s, s1, s2, s3⟩
          · exact z
          · exfalso
            have e1 : (m2_sl μ kM_far g).1 kM_cost (nI d).toNatClampNeg = nI s := by rw [cl]; exact s2
            rw [e1, ← nI_far] at z0
            have := (nI_eq (by omega) (by decide)).mp z0
            omega
        refine on g (fun u hu => ?_)
        rw [step]
        unfold bf_rx
        rw [if_pos hc1]
        exact hgx u hu
  -- the passes
  have outer : ∀ (j k : Nat) (g : Nat → Int64), k + j = 12 → (∀ u, u < 12 → g u = lN (bf_it A B T C n k (bf_in 1125899906842624 goal) u)) → κ 34 [.ref kM, .int (nI frm), .int (nI goal), .int (nI k), .null, .null, .null] [] (m2_sl μ kM_far g) := by
    intro j
    induction j with
    | zero =>
      intro k g hk hgx
      have hk : k = 12 := by omega
      subst hk
      have hgf : ∀ u, u < 12 → g u = lN (f u) := by
        intro u hu
        rw [hgx u hu, ← hff]
        rfl
      refine B_X12_findWay_34 h ⟨fun _ => ⟨vp_in_nI hfrm (by decide), ?_, ?_⟩, fun q => absurd (by decide) q⟩
      · rw [cf, m2_sl_same, hgf frm hfrm, show (1125899906842624 : Int64) = lN 1125899906842624 from by decide]
        intro q
        have hle := hF.2.1 frm
        exact walk g hgf ((lN_cmp_lt (by omega) (by omega)).mp q)
      · rw [cf, m2_sl_same, hgf frm hfrm, show (1125899906842624 : Int64) = lN 1125899906842624 from by decide]
        intro q
        have hle := hF.2.1 frm
        have hn2 : ¬ f frm < 1125899906842624 := fun z => q ((lN_cmp_lt (by omega) (by omega)).mpr z)
        refine ⟨g, μ.1 kM_way, ?_⟩
        have hw : wy A B T C n 1125899906842624 frm goal = none := by
          unfold wy
          rw [hff, if_neg hn2]
        rw [hw]
        exact ⟨rfl, rfl⟩
    | succ j ih =>
      intro k g hk hgx
      refine B_X12_findWay_34 h ⟨fun q => absurd (show nI 12 ≤ nI k from q) (nI_ge (by omega) (by omega)), fun _ => ?_⟩
      have e := inner n 0 (nI k) (bf_it A B T C n k (bf_in 1125899906842624 goal)) g (by omega) (bf_I_it hAB (bf_I_in A B T C n 1125899906842624 goal) k).2.1 hgx (fun g' hg' => ?_)
      · rw [nI_0] at e
        exact e
      · rw [nI_1]
        exact ih (k + 1) g' (by omega) hg'
  -- the start
  have start : ∀ (j r : Nat) (g : Nat → Int64), r + j = 12 → (∀ u, u < r → g u = lN (bf_in 1125899906842624 goal u)) → κ 2 [.ref kM, .int (nI frm), .int (nI goal), .int (nI r), .null, .null, .null] [] (m2_sl μ kM_far g) := by
    intro j
    induction j with
    | zero =>
      intro r g hr hgr
      have hr : r = 12 := by omega
      subst hr
      refine B_X12_findWay_2 h ⟨fun _ => ?_, fun q => absurd (by decide) q⟩
      have e := outer 12 0 g (by omega) hgr
      rw [nI_0] at e
      exact e
    | succ j ih =>
      intro r g hr hgr
      have cr : (nI r).toNatClampNeg = r := nI_clamp (by omega)
      refine B_X12_findWay_2 h ⟨fun q => absurd (show nI 12 ≤ nI r from q) (nI_ge (by omega) (by omega)), fun _ => ?_⟩
      rw [cr, nI_1]
      simp only [m2_sl_same, m2_sl_sl]
      refine ⟨fun q => ⟨vp_in_nI (by omega) (by decide), ih (r + 1) _ (by omega) (fun u hu => ?_)⟩, fun q => ⟨vp_in_nI (by omega) (by decide), ih (r + 1) _ (by omega) (fun u hu => ?_)⟩⟩
      · have hne : r ≠ goal := fun z => q (by rw [z])
        unfold vp_updL
        by_cases hur : u = r
        · subst hur
          unfold bf_in
          simp [hne]
          decide
        · rw [if_neg hur]
          exact hgr u (by omega)
      · have heq : r = goal := (nI_eq (by omega) (by omega)).mp q
        unfold vp_updL
        by_cases hur : u = r
        · subst hur
          unfold bf_in
          simp [heq]
          decide
        · rw [if_neg hur]
          exact hgr u (by omega)
  refine B_X12_findWay_0 h ?_
  have e := start 12 0 (μ.2 kM_far) (by omega) (fun u hu => by omega)
  rw [m2_sl_id, nI_0] at e
  exact e
