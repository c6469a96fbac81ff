/-! who has a DOOR on the WAY; crowd -/
theorem bitC12 : ∀ b0 b1 b2 b3 b4 b5 b6 b7 b8 b9 b10 b11 : Bool, fJ6_bitCount_0f7a4 (bts (fun j => match j with | 0 => b0 | 1 => b1 | 2 => b2 | 3 => b3 | 4 => b4 | 5 => b5 | 6 => b6 | 7 => b7 | 8 => b8 | 9 => b9 | 10 => b10 | _ => b11) 12) = nI (cnb (fun j => match j with | 0 => b0 | 1 => b1 | 2 => b2 | 3 => b3 | 4 => b4 | 5 => b5 | 6 => b6 | 7 => b7 | 8 => b8 | 9 => b9 | 10 => b10 | _ => b11) 12) := by decide +kernel
theorem cnb_congr {f g : Nat → Bool} : ∀ {n : Nat}, (∀ i, i < n → f i = g i) → cnb f n = cnb g n
  | 0, _ => rfl
  | n + 1, h => by
    unfold cnb
    rw [cnb_congr (fun i hi => h i (by omega)), h n (by omega)]
theorem bts_ext {f : Nat → Bool} {n m : Nat} (h : n ≤ m) (hm : m ≤ 32) : bts f n = bts (fun j => decide (j < n) && f j) m := by
  apply bv_ext
  intro j hj
  rw [bts_get _ _ (by omega), bts_get _ _ hm]
  by_cases z : j < n
  · simp [z, show j < m by omega]
  · simp [z]
theorem cnb_ext {f : Nat → Bool} {n : Nat} : ∀ {m : Nat}, n ≤ m → cnb f n = cnb (fun j => decide (j < n) && f j) m
  | 0, h => by
    have : n = 0 := by omega
    subst this
    rfl
  | m + 1, h => by
    by_cases e : n = m + 1
    · subst e
      exact cnb_congr (fun i hi => by simp [hi])
    · have := cnb_ext (f := f) (n := n) (m := m) (by omega)
      rw [this]
      show _ = cnb _ m + _
      rw [if_neg (by simp; omega), Nat.add_zero]
theorem bitC {f : Nat → Bool} {n : Nat} (h : n ≤ 12) : fJ6_bitCount_0f7a4 (bts f n) = nI (cnb f n) := by
  rw [bts_ext h (by decide), cnb_ext h]
  generalize (fun j => decide (j < n) && f j) = g
  have e : ∀ i, i < 12 → g i = (fun j => match j with | 0 => g 0 | 1 => g 1 | 2 => g 2 | 3 => g 3 | 4 => g 4 | 5 => g 5 | 6 => g 6 | 7 => g 7 | 8 => g 8 | 9 => g 9 | 10 => g 10 | _ => g 11) i := by
    intro i hi
    match i, hi with
    | 0, _ => rfl
    | 1, _ => rfl
    | 2, _ => rfl
    | 3, _ => rfl
    | 4, _ => rfl
    | 5, _ => rfl
    | 6, _ => rfl
    | 7, _ => rfl
    | 8, _ => rfl
    | 9, _ => rfl
    | 10, _ => rfl
    | 11, _ => rfl
    | k + 12, h => exact absurd h (by omega)
  rw [bts_congr e, cnb_congr e]
  exact bitC12 _ _ _ _ _ _ _ _ _ _ _ _
/-- where one has to come next -/
def gN (ν : m2M) (q : Nat) : Int32 := fX12_nextOf (nI q) ν
theorem gN_eq {ν : m2M} {q : Nat} (hq : q < 8) : gN ν q = (if ν.1 kM_errand q = -1 then -1 else if ν.1 kM_isDone q = 0 then (if ν.1 kM_wasThere q = 0 then ν.1 kM_errand q else ν.1 kM_home q) else -1) := by
  unfold gN fX12_nextOf
  rw [nI_clamp (by omega)]
theorem RLn.goal {ν μ : m2M} {n p q : Nat} (h : RLn ν μ n p) (hq : q < p) : fX6_goal (nI q) μ = gN ν q := by
  have hp := h.p8
  obtain ⟨⟨a1, a2, a3, a4, a5, a6, a7, a8⟩, _⟩ := h.2.1.2.2.2 q hq
  rw [gN_eq (by omega)]
  unfold fX6_goal fX6_isBusy
  rw [nI_clamp (by omega), a2, a5, a7, a8]
  by_cases z1 : ν.1 kM_errand q = -1
  · simp [z1]
  · by_cases z2 : ν.1 kM_isDone q = 0
    · simp [z1, z2]
    · simp [z1, z2]
theorem RLn.gin {ν μ : m2M} {n p q : Nat} (h : RLn ν μ n p) (hq : q < p) : gN ν q = -1 ∨ in_ 12 (gN ν q) := by
  have hp := h.p8
  obtain ⟨_, b1, b2, b3, b4, b5, _⟩ := h.2.1.2.2.2 q hq
  rw [gN_eq (by omega)]
  by_cases z1 : ν.1 kM_errand q = -1
  · rw [if_pos z1]; exact Or.inl rfl
  · rw [if_neg z1]
    by_cases z2 : ν.1 kM_isDone q = 0
    · rw [if_pos z2]
      by_cases z3 : ν.1 kM_wasThere q = 0
      · rw [if_pos z3]; exact Or.inr (b5.resolve_left z1)
      · rw [if_neg z3]; exact Or.inr b2
    · rw [if_neg z2]; exact Or.inl rfl
theorem vM_gN {ν μ : m2M} {q : Nat} (h : vM ν μ) : gN μ q = gN ν q := by
  unfold gN fX12_nextOf
  rw [h.1 kM_errand _ rfl rfl, h.1 kM_isDone _ rfl rfl, h.1 kM_wasThere _ rfl rfl, h.1 kM_home _ rfl rfl]
/-- the WAY of one -/
def wwL (ν : m2M) (n q : Nat) : List Nat := if gN ν q = -1 then [] else (wyU ν n (hO ν) (hW ν q) (gN ν q).toNatClampNeg).getD []
def wwB (ν : m2M) (n q d : Nat) : Bool := decide (d ∈ wwL ν n q)
theorem wwL_ok {ν μ : m2M} {n p q : Nat} (h : RLn ν μ n p) (hq : q < p) : (wwL ν n q).Nodup ∧ (wwL ν n q).length ≤ 11 ∧ ∀ i d : Nat, (wwL ν n q)[i]? = some d → d < n := by
  unfold wwL
  by_cases z : gN ν q = -1
  · rw [if_pos z]
    exact ⟨List.nodup_nil, by decide, fun i d e => by simp at e⟩
  · rw [if_neg z]
    obtain ⟨g, hg, e⟩ := (h.gin hq).resolve_left z
    rw [e, nI_clamp (by omega)]
    cases e2 : wyU ν n (hO ν) (hW ν q) g with
    | none => exact ⟨List.nodup_nil, by decide, fun i d e => by simp at e⟩
    | some l =>
      obtain ⟨h1, h2, h3, _⟩ := wyU_dec h (h.hw q hq).2 hg e2
      exact ⟨h1, h2, h3⟩
def addF (f : Nat → Int32) (l : List Nat) (c : Int32) : Nat → Int32 := fun d => if d ∈ l then f d + c else f d
theorem addF_nil (f : Nat → Int32) (c : Int32) : addF f [] c = f := by
  funext d
  unfold addF
  rw [if_neg (by simp)]
theorem addF_s {f : Nat → Int32} {c : Int32} {l : List Nat} (hN : l.Nodup) {i d : Nat} (h : l[i]? = some d) : upd (addF f (l.take i) c) d (addF f (l.take i) c d + c) = addF f (l.take (i + 1)) c := by
  have h0 := take_mem hN h
  funext e
  unfold upd addF
  by_cases w : e = d
  · subst w
    rw [if_pos rfl, if_neg h0, if_pos ((take_s h e).mpr (Or.inr rfl))]
  · rw [if_neg w]
    show (if e ∈ l.take i then f e + c else f e) = _
    by_cases z : e ∈ l.take i
    · rw [if_pos z, if_pos ((take_s h e).mpr (Or.inl z))]
    · rw [if_neg z, if_neg (fun q => ((take_s h e).mp q).elim z w)]
/-- rows of Routes, and who is on the WAY -/
def frW (μ μ' : m2M) : Prop := fr (fun c => (Nat.ble 33 c && Nat.ble c 36) || (c == kW_onWay) || (c == kW_strangersOnWay)) μ μ'
theorem frR.w {μ μ' : m2M} (h : frR μ μ') : frW μ μ' := fr.mo h (fun c hc => by
  simp only [Bool.or_eq_false_iff] at hc
  exact hc.1.1)
theorem frW.j {μ μ' : m2M} (h : frW μ μ') : jC μ μ' := by
  have key : ∀ c, ((Nat.ble 33 c && Nat.ble c 36) || (c == kW_onWay) || (c == kW_strangersOnWay)) = true → (∀ j, scr c j = true) ∧ Nat.ble c 64 = true := by
    intro c hc
    rw [Bool.or_eq_true, Bool.or_eq_true, Bool.and_eq_true, Nat.ble_eq, Nat.ble_eq, beq_iff_eq, beq_iff_eq] at hc
    rcases hc with (hc | hc) | hc
    · rcases (show c = 33 ∨ c = 34 ∨ c = 35 ∨ c = 36 by omega) with rfl | rfl | rfl | rfl
      · exact ⟨fun _ => rfl, rfl⟩
      · exact ⟨fun _ => rfl, rfl⟩
      · exact ⟨fun _ => rfl, rfl⟩
      · exact ⟨fun _ => rfl, rfl⟩
    · subst hc; exact ⟨fun _ => rfl, rfl⟩
    · subst hc; exact ⟨fun _ => rfl, rfl⟩
  refine ⟨⟨fun c j hs => ?_, fun j => by rw [(h kC_row rfl).2], fun j => by rw [(h kM_row rfl).2]⟩, fr.mo h (fun c hc => ?_)⟩
  · cases e : ((Nat.ble 33 c && Nat.ble c 36) || (c == kW_onWay) || (c == kW_strangersOnWay)) with
    | false => rw [(h c e).1]
    | true => rw [(key c e).1 j] at hs; cases hs
  · show ((Nat.ble 33 c && Nat.ble c 36) || (c == kW_onWay) || (c == kW_strangersOnWay)) = false
    cases e : ((Nat.ble 33 c && Nat.ble c 36) || (c == kW_onWay) || (c == kW_strangersOnWay)) with
    | false => rfl
    | true => have := (key c e).2; rw [show Nat.ble c 64 = false from hc] at this; cases this
def cwF (ν : m2M) (n : Nat) (lo : Int32) (d q : Nat) : Bool := !decide (nI q = lo) && wwB ν n q d
def csF (ν : m2M) (n : Nat) (lo : Int32) (d q : Nat) : Bool := cwF ν n lo d q && !decide (ν.1 kM_isStranger q = 0)
theorem S_countWays {D n p : Nat} (hD : 3 ≤ D) (lo : Int32) (ν μ : m2M) (hR : RLn ν μ n p) : m2_MT D yX10_countWays cX10_countWays 6 none [.ref kW, .int lo] μ (fun _ μ' => frW μ μ' ∧ ∀ d, d < n → μ'.1 kW_onWay d = nI (cnb (cwF ν n lo d) p) ∧ μ'.1 kW_strangersOnWay d = nI (cnb (csF ν n lo d) p)) := by
  obtain ⟨D, rfl⟩ : ∃ E, D = E + 1 := ⟨D - 1, by omega⟩
  have hn := hR.n20
  have hp := hR.p8
  refine m2_MT.intro (ls := [.ref kW, .int lo, .null, .null, .null, .null]) (by decide +kernel) rfl (ble rfl) (fun κ hk => ?_)
  refine B_X10_countWays_0 hk ⟨_, S_fill sh_kW_onWay (by decide) 0 μ, fun μ2 e2 => ⟨_, S_fill sh_kW_strangersOnWay (by decide) 0 μ2, fun μ7 e7 => ?_⟩⟩
  have f2 : frW μ μ2 := by rw [e2]; exact fr_sr rfl fr.rf
  have f7 : frW μ μ7 := by rw [e7]; exact fr_sr rfl f2
  have hR7 := f7.j.R hR
  refine ⟨_, S_openR (by omega) ν μ7 hR7, fun μ12 r12 => ?_⟩
  obtain ⟨f12, c12⟩ := r12
  have o12 : ∀ d, d < 20 → μ12.1 kW_onWay d = 0 ∧ μ12.1 kW_strangersOnWay d = 0 := by
    intro d hd
    rw [(f12 kW_onWay rfl).1, (f12 kW_strangersOnWay rfl).1, e7, e2]
    exact ⟨if_pos hd, if_pos hd⟩
  have key := dn (n := p) (G := fun q => ∀ μ1, frW μ μ1 → (∀ d, d < n → μ1.1 kR_cost d = if hO ν d = true then 1 else 0) → (∀ d, d < n → μ1.1 kW_onWay d = nI (cnb (cwF ν n lo d) q) ∧ μ1.1 kW_strangersOnWay d = nI (cnb (csF ν n lo d) q)) → κ 26 [.ref kW, .int lo, .int (nI q), .null, .null, .null] [] μ1) ?_ (fun q hq ih => ?_)
  · exact key μ12 (f7.tr f12.w) c12 (fun d hd => o12 d (by omega))
  · intro μ1 f1 c1 o1
    have hR1 := f1.j.R hR
    exact B_X10_countWays_26 hk (by omega) ⟨fun _ => ⟨f1, o1⟩, fun z => absurd (by rw [hR1.2.1.1]; exact nI_le (Nat.le_refl p) (by omega)) z⟩
  · intro μ1 f1 c1 o1
    have hR1 := f1.j.R hR
    have hw := hR1.cw q hq
    have cs : ∀ (f : Nat → Bool), cnb f (q + 1) = cnb f q + (if f q = true then 1 else 0) := fun f => rfl
    refine B_X10_countWays_26 hk (by omega) ⟨fun z => absurd (by rw [hR1.2.1.1] at z; exact z) (nI_ge hq (by omega)), fun _ => ⟨vp_in_nI (by omega) (by decide), ?_⟩⟩
    rw [nI_clamp (by omega), nI_1, hR1.goal hq, hw.1]
    refine ⟨fun z => ?_, fun z => ⟨fun z2 => ?_, fun z2 => ?_⟩⟩
    · refine ih μ1 f1 c1 (fun d hd => ?_)
      have e1 : cwF ν n lo d q = false := by unfold cwF; rw [decide_eq_true z]; rfl
      have e2 : csF ν n lo d q = false := by unfold csF; rw [e1]; rfl
      rw [cs, cs, e1, e2]
      exact o1 d hd
    · obtain ⟨g, hg, eg⟩ := (hR.gin hq).resolve_left z2
      rw [eg]
      refine ⟨_, S_findR (U := hO ν) (by omega) ν μ1 hR1 c1 hw.2 hg, fun y11 μ12' r12' => ?_⟩
      obtain ⟨f12', cc, m12'⟩ := r12'
      have el : wwL ν n q = (wyU ν n (hO ν) (hW ν q) g).getD [] := by
        unfold wwL
        rw [if_neg z2, eg, nI_clamp (by omega)]
      obtain ⟨l1, l2, l3⟩ := wwL_ok hR hq
      have fnd : ∃ sz : Int32, y11 = sz ∧ (sz = -1 ∧ wwL ν n q = [] ∨ sz = nI (wwL ν n q).length) ∧ ∀ i d : Nat, (wwL ν n q)[i]? = some d → μ12'.1 kR_found i = nI d := by
        revert m12'
        cases e : wyU ν n (hO ν) (hW ν q) g with
        | none =>
          intro m
          cases m
          rw [e] at el
          rw [el]
          exact ⟨-1, rfl, Or.inl ⟨rfl, rfl⟩, fun i d w => by simp at w⟩
        | some l =>
          rintro ⟨m1, m2⟩
          cases m1
          rw [e] at el
          rw [el]
          exact ⟨_, rfl, Or.inr rfl, m2⟩
      obtain ⟨sz, rfl, hsz, hfd⟩ := fnd
      generalize hl : wwL ν n q = l at l1 l2 l3 hsz hfd
      have hst : μ12'.1 kP_stranger q = ν.1 kM_isStranger q := ((f12'.j.R hR1).2.1.2.2.2 q hq).1.2.2.1
      let s : Int32 := if ν.1 kM_isStranger q = 0 then 0 else 1
      have ex : ∀ i, y11 = nI l.length ∨ i = 0 → True := fun _ _ => trivial
      have kk := dn (n := l.length) (G := fun i => κ 81 [.ref kW, .int lo, .int (nI q), .int (nI g), .int y11, .int (nI i)] [] (m2_sr (m2_sr μ12' kW_onWay (addF (μ12'.1 kW_onWay) (l.take i) 1)) kW_strangersOnWay (addF (μ12'.1 kW_strangersOnWay) (l.take i) s))) ?_ (fun i hi ih2 => ?_)
      · rw [List.take_zero, addF_nil, addF_nil] at kk
        rw [show m2_sr (m2_sr μ12' kW_onWay (μ12'.1 kW_onWay)) kW_strangersOnWay (μ12'.1 kW_strangersOnWay) = μ12' from by rw [m2_sr_id, m2_sr_id]] at kk
        exact kk
      · rw [List.take_length]
        have hle : y11 ≤ nI l.length := by
          rcases hsz with ⟨w, w2⟩ | w
          · rw [w, w2]; decide
          · rw [w]; exact nI_le (Nat.le_refl _) (by omega)
        refine B_X10_countWays_81 hk (Nat.zero_le _) ⟨fun _ => ?_, fun w => absurd hle w⟩
        rw [nI_1]
        refine ih _ (fr_sr rfl (fr_sr rfl (f1.tr f12'.w))) (fun d hd => ?_) (fun d hd => ?_)
        · show μ12'.1 kR_cost d = _
          rw [cc]
          exact c1 d hd
        · have ew : cwF ν n lo d q = decide (d ∈ l) := by
            unfold cwF wwB
            rw [decide_eq_false z, hl]
            rfl
          have o2 : μ12'.1 kW_onWay d = nI (cnb (cwF ν n lo d) q) ∧ μ12'.1 kW_strangersOnWay d = nI (cnb (csF ν n lo d) q) := by
            rw [(f12' kW_onWay rfl).1, (f12' kW_strangersOnWay rfl).1]
            exact o1 d hd
          rw [cs, cs]
          show addF (μ12'.1 kW_onWay) l 1 d = _ ∧ addF (μ12'.1 kW_strangersOnWay) l s d = _
          unfold addF csF
          rw [ew, o2.1, o2.2]
          by_cases w : d ∈ l
          · rw [if_pos w, if_pos w, if_pos (decide_eq_true w), nI_1]
            refine ⟨rfl, ?_⟩
            show _ + (if ν.1 kM_isStranger q = 0 then (0 : Int32) else 1) = _
            by_cases v : ν.1 kM_isStranger q = 0
            · rw [if_pos v, Int32.add_zero, if_neg (by simp [v])]
              rfl
            · rw [if_neg v, if_pos (by simp [w, v]), nI_1]
              rfl
          · rw [if_neg w, if_neg w, if_neg (by simp [w]), if_neg (by simp [w])]
            exact ⟨rfl, rfl⟩
      · have e0 : l[i]? = some l[i] := List.getElem?_eq_getElem hi
        have hd := l3 i _ e0
        have hy : y11 = nI l.length := by
          rcases hsz with ⟨_, w2⟩ | w
          · rw [w2] at hi; exact absurd hi (Nat.not_lt_zero i)
          · exact w
        have e1 : (m2_sr (m2_sr μ12' kW_onWay (addF (μ12'.1 kW_onWay) (l.take i) 1)) kW_strangersOnWay (addF (μ12'.1 kW_strangersOnWay) (l.take i) s)).1 kR_found i = nI l[i] := hfd i _ e0
        have e2 : (m2_sr (m2_sr μ12' kW_onWay (addF (μ12'.1 kW_onWay) (l.take i) 1)) kW_strangersOnWay (addF (μ12'.1 kW_strangersOnWay) (l.take i) s)).1 kP_stranger q = ν.1 kM_isStranger q := hst
        have e3 : (m2_sr (m2_sr μ12' kW_onWay (addF (μ12'.1 kW_onWay) (l.take i) 1)) kW_strangersOnWay (addF (μ12'.1 kW_strangersOnWay) (l.take i) s)).1 kW_onWay = addF (μ12'.1 kW_onWay) (l.take i) 1 := rfl
        have e4 : (m2_sr (m2_sr μ12' kW_onWay (addF (μ12'.1 kW_onWay) (l.take i) 1)) kW_strangersOnWay (addF (μ12'.1 kW_strangersOnWay) (l.take i) s)).1 kW_strangersOnWay = addF (μ12'.1 kW_strangersOnWay) (l.take i) s := rfl
        refine B_X10_countWays_81 hk (Nat.zero_le _) ⟨fun w => absurd (by rw [hy] at w; exact w) (nI_ge hi (by omega)), fun _ => ⟨vp_in_nI (by omega) (by decide), ?_⟩⟩
        rw [nI_clamp (by omega), e1, nI_clamp (by omega), nI_clamp (by omega), e2, e3, e4, nI_1]
        refine ⟨vp_in_nI (by omega) (by decide), vp_in_nI (by omega) (by decide), ?_⟩
        rw [m2_sr_comm _ (c := kW_onWay) (c' := kW_strangersOnWay) _ _ (by decide), m2_si_sr, m2_sr_comm _ (c := kW_strangersOnWay) (c' := kW_onWay) _ _ (by decide), m2_si_sr]
        rw [addF_s l1 e0]
        have e5 := addF_s (f := μ12'.1 kW_strangersOnWay) (c := s) l1 e0
        rw [show (if ν.1 kM_isStranger q = 0 then (0 : Int32) else 1) = s from rfl, e5]
        exact ih2
    · refine ih μ1 f1 c1 (fun d hd => ?_)
      have e1 : cwF ν n lo d q = false := by
        unfold cwF wwB wwL
        rw [if_pos z2]
        simp
      have e2 : csF ν n lo d q = false := by unfold csF; rw [e1]; rfl
      rw [cs, cs, e1, e2]
      exact o1 d hd
