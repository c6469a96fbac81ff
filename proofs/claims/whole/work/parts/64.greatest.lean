/-! Flow: narrowest, push, greatest -/
theorem min_nI {a b : Nat} (ha : a < 2 ^ 31) (hb : b < 2 ^ 31) : m2_min (nI a) (nI b) = nI (min a b) := by
  unfold m2_min
  by_cases z : b < a
  · rw [if_pos (nI_lt z ha), Nat.min_eq_right (by omega)]
  · rw [if_neg (fun w => absurd (nI_le (show a ≤ b by omega) hb) (Int32.not_le.mpr w)), Nat.min_eq_left (by omega)]
theorem i32_ab (x y z : Int32) : x - (y - z) = x - y + z := by
  rw [Int32.sub_eq_add_neg x (y - z), Int32.neg_sub, Int32.sub_eq_add_neg z y, Int32.sub_eq_add_neg x y, Int32.add_assoc, Int32.add_comm z]
def fwA (μ : m2M) (m : Nat) (A B : Nat → Nat) (T : Nat → Bool) (L : Nat → Nat) : Prop := μ.1 kF 7 = nI m ∧ m ≤ 21 ∧ (∀ d, d < m → μ.1 kF_a d = nI (A d) ∧ A d < 12 ∧ μ.1 kF_b d = nI (B d) ∧ B d < 12 ∧ A d ≠ B d ∧ μ.1 kF_oneWay d = (if T d = true then 0 else 1) ∧ μ.1 kF_lets d = nI (L d) ∧ L d ≤ 61)
section GR
variable {m : Nat} {A B : Nat → Nat} {T : Nat → Bool} {L f : Nat → Nat}
theorem fwR.toA {μ : m2M} (h : fwR μ m A B T L f) : fwA μ m A B T L := ⟨h.1, h.2.1, fun d hd => by
  obtain ⟨a1, a2, a3, a4, a5, a6, a7, a8, _⟩ := h.2.2.1 d hd
  exact ⟨a1, a2, a3, a4, a5, a6, a7, a8⟩⟩
theorem fwA.R {μ : m2M} (h : fwA μ m A B T L) (hn : ∀ d, d < m → μ.1 kF_net d = nI (L d) - nI (f d)) (hf : fok m T L f) : fwR μ m A B T L f := ⟨h.1, h.2.1, fun d hd => by
  obtain ⟨a1, a2, a3, a4, a5, a6, a7, a8⟩ := h.2.2 d hd
  exact ⟨a1, a2, a3, a4, a5, a6, a7, a8, hn d hd⟩, hf⟩
theorem fwA.ne {μ : m2M} (h : fwA μ m A B T L) : ∀ d, d < m → A d ≠ B d := fun d hd => (h.2.2 d hd).2.2.2.2.1
theorem bpt_e {d u r : Nat} (hAB : A d ≠ B d) (ho : fwO A B d u = r) (hu : A d = u ∨ B d = u) : (A d = r ∧ B d = u ∧ A d ≠ u ∧ B d ≠ r) ∨ (A d ≠ r ∧ B d = r ∧ A d = u) := by
  unfold fwO at ho
  by_cases z : A d = u
  · rw [if_pos z] at ho
    exact Or.inr ⟨fun e => hAB (e.trans ho.symm), ho, z⟩
  · rw [if_neg z] at ho
    exact Or.inl ⟨ho, hu.resolve_left z, z, fun e => hAB (ho.trans e.symm)⟩
theorem bpt_step {ix : Nat → Nat} {frm n r : Nat} {q : Nat × Nat} {l : List (Nat × Nat)} (hAB : ∀ d, d < m → A d ≠ B d) (h : bpt m A B T L f ix frm (q :: l) r) (hn : ∀ q', q' ∈ q :: l → n ≤ fwF A B T L f q'.1 q'.2) : bpt m A B T L (fwP A n f q.1 q.2) ix frm l q.2 ∧ ∀ q', q' ∈ l → n ≤ fwF A B T L (fwP A n f q.1 q.2) q'.1 q'.2 := by
    obtain ⟨h1, h2, h3, h4, h5, h6, h7, h8⟩ := h
    refine ⟨bpt_o (Nat.le_refl _) h7 h4 h5 h8, ?_⟩
    intro q' hq'
    have hne : q'.1 ≠ q.1 := by
        have key : ∀ {l : List (Nat × Nat)} {u : Nat}, bpt m A B T L f ix frm l u → ix u < ix r → ∀ q', q' ∈ l → (fwO A B q'.1 q'.2 ≠ r ∧ q'.2 ≠ r) ∧ (A q'.1 = q'.2 ∨ B q'.1 = q'.2) := by
          intro l
          induction l with
          | nil => intro u _ _ q' hq'; exact absurd hq' (by simp)
          | cons p l ih =>
            intro u hu hur q' hq'
            obtain ⟨g1, g2, g3, g4, g5, g6, g7, g8⟩ := hu
            rcases List.mem_cons.mp hq' with rfl | z
            · refine ⟨⟨fun e => ?_, fun e => ?_⟩, g5⟩
              · rw [g4] at e; rw [e] at hur; omega
              · rw [e] at g7; omega
            · exact ih g8 (by omega) q' z
        obtain ⟨⟨k1, k2⟩, hm⟩ := key h8 h7 q' hq'
        intro e
        rw [e] at k1 hm
        have hr : A q.1 = r ∨ B q.1 = r := by
          rcases bpt_e (hAB q.1 h2) h4 h5 with w | w
          · exact Or.inl w.1
          · exact Or.inr w.2.1
        rcases bpt_e (hAB q.1 h2) (rfl : fwO A B q.1 q'.2 = _) hm with w | w
        · rcases hr with v | v
          · exact k1 (w.1.symm.trans v)
          · exact k2 (w.2.1.symm.trans v)
        · rcases hr with v | v
          · exact k2 (w.2.2.symm.trans v)
          · exact k1 (w.2.1.symm.trans v)
    rw [fwF_o hne]
    exact hn q' (by simp [hq'])
set_option maxHeartbeats 1000000 in
theorem S_narrowest {D frm to : Nat} {ix : Nat → Nat} {l : List (Nat × Nat)} (hD : 1 ≤ D) (μ : m2M) (h : fwR μ m A B T L f) (hfrm : frm < 12) (hto : to < 12) (hb : bpt m A B T L f ix frm l to) (hi : ix to ≤ 11) (hv : vpt (μ.1 kF_via) l to) : m2_MT D yX1_narrowest cX1_narrowest 7 (some .int) [.ref kF, .int (nI frm), .int (nI to)] μ (fun r μ' => r = some (.int (nI (fwM A B T L f l 2000))) ∧ μ' = μ) := by
  obtain ⟨D, rfl⟩ : ∃ E, D = E + 1 := ⟨D - 1, by omega⟩
  refine m2_MT.intro (ls := [.ref kF, .int (nI frm), .int (nI to), .null, .null, .null, .null]) (by decide +kernel) rfl (ble rfl) (fun κ hk => ?_)
  refine B_X1_narrowest_0 hk ?_
  have hl := bpt_len hb
  have hm := h.2.1
  generalize hV : fwM A B T L f l 2000 = V at hk ⊢
  have go : ∀ (l : List (Nat × Nat)) (v r i : Nat), r < 12 → v ≤ 2000 → i + l.length ≤ 11 → bpt m A B T L f ix frm l r → vpt (μ.1 kF_via) l r → fwM A B T L f l v = V → κ 10 [.ref kF, .int (nI frm), .int (nI to), .int (nI v), .int (nI r), .int (nI i), .null] [] μ := by
    intro l
    induction l with
    | nil =>
      intro v r i hr hv hi hb hp e
      have hb : r = frm := hb
      have e : v = V := e
      subst hb e
      exact B_X1_narrowest_10 hk (Nat.zero_le _) ⟨fun _ => ⟨rfl, rfl⟩, fun _ => ⟨fun _ => ⟨rfl, rfl⟩, fun w => absurd rfl w⟩⟩
    | cons q l ih =>
      intro v r i hr hv hi hb hp e
      obtain ⟨b1, b2, b3, b4, b5, b6, b7, b8⟩ := hb
      obtain ⟨p1, p2⟩ := hp
      simp only [List.length_cons] at hi
      obtain ⟨a1, a2, a3, a4, a5, a6, a7, a8, a9⟩ := h.2.2.1 q.1 b2
      have hfr := h.free b2 b6
      have hle := fwF_le (A := A) (B := B) (u := q.2) h.2.2.2 b2 a8
      refine B_X1_narrowest_10 hk (Nat.zero_le _) ⟨fun w => absurd w (nI_ge (b := 12) (by omega) (by decide)), fun _ => ⟨fun w => absurd ((nI_eq (by omega) (by omega)).mp w) b1, fun _ => ⟨vp_in_nI hr (by decide), ?_⟩⟩⟩
      rw [nI_clamp (by omega), p1, nI_clamp (by omega), a1, a3]
      refine ⟨vp_in_nI (by omega) (by decide), ?_⟩
      have nx := ih (min v (fwF A B T L f q.1 q.2)) q.2 (i + 1) b6 (by omega) (by omega) b8 p2 e
      rcases bpt_e a5 b4 b5 with w | w
      · refine ⟨fun z => absurd (by rw [w.1]) z, fun _ => ?_⟩
        rw [w.2.1, hfr, min_nI (by omega) (by omega), nI_1]
        exact nx
      · refine ⟨fun _ => ?_, fun z => absurd ((nI_eq (by omega) (by omega)).mp z) w.1⟩
        rw [w.2.2, hfr, min_nI (by omega) (by omega), nI_1]
        exact nx
  exact go l 2000 to 0 hto (Nat.le_refl _) (by omega) hb hv hV
set_option maxHeartbeats 1000000 in
theorem S_push {D frm to n : Nat} {ix : Nat → Nat} {l : List (Nat × Nat)} (μ : m2M) (h : fwR μ m A B T L f) (hfrm : frm < 12) (hto : to < 12) (hb : bpt m A B T L f ix frm l to) (hi : ix to ≤ 11) (hv : vpt (μ.1 kF_via) l to) (hn : ∀ q, q ∈ l → n ≤ fwF A B T L f q.1 q.2) : m2_MT D yX1_push cX1_push 8 none [.ref kF, .int (nI frm), .int (nI to), .int (nI n)] μ (fun _ μ' => fr (fun c => c == kF_net) μ μ' ∧ fwR μ' m A B T L (fwL A n l f)) := by
  refine m2_MT.intro (ls := [.ref kF, .int (nI frm), .int (nI to), .int (nI n), .null, .null, .null, .null]) (by decide +kernel) rfl (ble rfl) (fun κ hk => ?_)
  refine B_X1_push_0 hk ?_
  have hl := bpt_len hb
  have hm := h.2.1
  generalize hV : fwL A n l f = V at hk ⊢
  have go : ∀ (l : List (Nat × Nat)) (f : Nat → Nat) (r i : Nat) (M : m2M), fr (fun c => c == kF_net) μ M → fwR M m A B T L f → r < 12 → i + l.length ≤ 11 → bpt m A B T L f ix frm l r → vpt (μ.1 kF_via) l r → (∀ q, q ∈ l → n ≤ fwF A B T L f q.1 q.2) → fwL A n l f = V → κ 6 [.ref kF, .int (nI frm), .int (nI to), .int (nI n), .int (nI r), .int (nI i), .null, .null] [] M := by
    intro l
    induction l with
    | nil =>
      intro f r i M hM hR hr hi hb hp _ e
      have hb : r = frm := hb
      have e : f = V := e
      subst hb e
      exact B_X1_push_6 hk ⟨fun _ => ⟨hM, hR⟩, fun _ => ⟨fun _ => ⟨hM, hR⟩, fun w => absurd rfl w⟩⟩
    | cons q l ih =>
      intro f r i M hM hR hr hi hb hp hnq e
      obtain ⟨st1, st2⟩ := bpt_step hR.toA.ne hb hnq
      obtain ⟨b1, b2, b3, b4, b5, b6, b7, b8⟩ := hb
      obtain ⟨p1, p2⟩ := hp
      simp only [List.length_cons] at hi
      obtain ⟨a1, a2, a3, a4, a5, a6, a7, a8, a9⟩ := hR.2.2.1 q.1 b2
      have hq := hnq q (by simp)
      have ok := fwP_ok (n := n) hR.2.2.2 b5 hq
      have nx : ∀ x : Int32, x = nI (L q.1) - nI (fwP A n f q.1 q.2 q.1) → κ 6 [.ref kF, .int (nI frm), .int (nI to), .int (nI n), .int (nI q.2), .int (nI i + 1), .null, .null] [] (m2_si M kF_net q.1 x) := by
        intro x hx
        rw [nI_1]
        refine ih (fwP A n f q.1 q.2) q.2 (i + 1) _ (fr_si rfl hM) ?_ b6 (by omega) st1 p2 st2 e
        refine ⟨by rw [si_nc _ _ _ (by decide)]; exact hR.1, hm, fun d hd => ?_, ok⟩
        rw [si_nc _ _ _ (by decide : kF_a ≠ kF_net), si_nc _ _ _ (by decide : kF_b ≠ kF_net), si_nc _ _ _ (by decide : kF_oneWay ≠ kF_net), si_nc _ _ _ (by decide : kF_lets ≠ kF_net)]
        obtain ⟨c1, c2, c3, c4, c5, c6, c7, c8, c9⟩ := hR.2.2.1 d hd
        refine ⟨c1, c2, c3, c4, c5, c6, c7, c8, ?_⟩
        by_cases z : d = q.1
        · rw [z, si_at]; exact hx
        · rw [si_nj _ _ _ z]
          unfold fwP
          rw [if_neg z]
          exact c9
      refine B_X1_push_6 hk ⟨fun w => absurd w (nI_ge (b := 12) (by omega) (by decide)), fun _ => ⟨fun w => absurd ((nI_eq (by omega) (by omega)).mp w) b1, fun _ => ⟨vp_in_nI hr (by decide), ?_⟩⟩⟩
      rw [nI_clamp (by omega), (hM kF_via rfl).1, p1, nI_clamp (by omega), a1, a3, a9]
      refine ⟨vp_in_nI (by omega) (by decide), ?_⟩
      unfold fwF at hq
      rcases bpt_e a5 b4 b5 with w | w
      · refine ⟨fun z => absurd ((nI_eq (by omega) (by omega)).mp z) w.2.2.2, fun _ => ?_⟩
        rw [w.2.1]
        refine nx _ ?_
        unfold fwP
        rw [if_pos rfl, if_neg w.2.2.1, ← nI_add, Int32.sub_eq_add_neg, Int32.sub_eq_add_neg, Int32.neg_add, Int32.add_assoc, Int32.sub_eq_add_neg (-nI (f q.1))]
      · refine ⟨fun _ => ?_, fun z => absurd (by rw [w.2.1]) z⟩
        rw [w.2.2]
        refine nx _ ?_
        rw [if_pos w.2.2] at hq
        unfold fwP
        rw [if_pos rfl, if_pos w.2.2, ← pk_sub hq, i32_ab]
  exact go l f to 0 μ fr.rf h hto (by omega) hb hv hn hV
def isN (c : Nat) : Bool := (c == kF) || (c == kF_via) || (c == kF_queue) || (c == kF_net)
def frN (μ μ' : m2M) : Prop := fr isN μ μ' ∧ ∀ j, j ≠ 10 → μ'.1 kF j = μ.1 kF j
theorem frN.rf {μ : m2M} : frN μ μ := ⟨fr.rf, fun _ _ => rfl⟩
theorem frN.tr {μ ν ρ : m2M} (h1 : frN μ ν) (h2 : frN ν ρ) : frN μ ρ := ⟨h1.1.tr h2.1, fun j hj => (h2.2 j hj).trans (h1.2 j hj)⟩
theorem frF.N {μ ν : m2M} (h : frF μ ν) : frN μ ν := ⟨h.1.mo (fun c q => by
  unfold isN at q
  unfold isF
  simp only [Bool.or_eq_false_iff] at q ⊢
  exact q.1), h.2⟩
theorem frN_net {μ ν : m2M} (h : fr (fun c => c == kF_net) μ ν) : frN μ ν := ⟨h.mo (fun c q => by
  unfold isN at q
  simp only [Bool.or_eq_false_iff] at q
  exact q.2), fun j _ => by rw [(h kF rfl).1]⟩
theorem frN.Aa {μ μ' : m2M} (h : frN μ μ') (q : fwA μ m A B T L) : fwA μ' m A B T L := by
  obtain ⟨h1, h2, h3⟩ := q
  refine ⟨(h.2 7 (by decide)).trans h1, h2, fun d hd => ?_⟩
  rw [(h.1 kF_a rfl).1, (h.1 kF_b rfl).1, (h.1 kF_oneWay rfl).1, (h.1 kF_lets rfl).1]
  exact h3 d hd
theorem dcut_le (hL : ∀ d, d < m → L d ≤ 61) (hm : m ≤ 21) (X : Nat → Bool) : dcut m A B T L X ≤ 1281 := by
  have : dcut m A B T L X ≤ sumN (fun _ => 61) m := by
    refine sumN_le (fun d hd => ?_)
    have := hL d hd
    unfold rcT fwS
    split
    · exact this
    · split
      · split <;> omega
      · omega
  rw [sumN_const] at this
  omega
def gtR (m : Nat) (A B : Nat → Nat) (T : Nat → Bool) (L : Nat → Nat) (frm to : Nat) (r : Option Value) (μ' : m2M) : Prop := ∃ (V : Nat) (R : Nat → Bool) (f : Nat → Nat), r = some (.int (nI V)) ∧ fwR μ' m A B T L f ∧ μ'.1 kF 10 = bts R 12 ∧ mcP (dcut m A B T L) frm to V R ∧ V ≤ 1281 ∧ (∀ x, R x = true → x < 12) ∧ ∀ X : Nat → Bool, X frm = true → X to = false → rcut m A B T L f X + V = dcut m A B T L X
set_option maxHeartbeats 1000000 in
theorem S_greatest {D frm to : Nat} (hD : 2 ≤ D) (μ : m2M) (h : fwA μ m A B T L) (hfrm : frm < 12) (hto : to < 12) (hne : frm ≠ to) : m2_MT D yX1_greatest cX1_greatest 6 (some .int) [.ref kF, .int (nI frm), .int (nI to)] μ (fun r μ' => frN μ μ' ∧ gtR m A B T L frm to r μ') := by
  obtain ⟨D, rfl⟩ : ∃ E, D = E + 1 := ⟨D - 1, by omega⟩
  have hm := h.2.1
  have hL : ∀ d, d < m → L d ≤ 61 := fun d hd => (h.2.2 d hd).2.2.2.2.2.2.2
  refine m2_MT.intro (ls := [.ref kF, .int (nI frm), .int (nI to), .null, .null, .null]) (by decide +kernel) rfl (ble rfl) (fun κ hk => ?_)
  refine B_X1_greatest_0 hk ⟨_, S_fill sh_kF_net (by decide) 0 μ, fun μ2 hμ2 => ?_⟩
  have f0 : frN μ μ2 := by
    rw [hμ2]
    exact frN_net (fr_sr rfl fr.rf)
  have R0 : fwR μ2 m A B T L L := by
    refine fwA.R (f0.Aa h) (fun d hd => ?_) (fun d hd => ?_)
    · rw [hμ2, m2_sr_same, Int32.sub_self]
      exact if_pos (by omega)
    · unfold fwS; omega
  have go : ∀ (k s i : Nat) (f : Nat → Nat) (M : m2M), s + k = 1281 → i ≤ s → frN μ M → fwR M m A B T L f → (∀ X : Nat → Bool, X frm = true → X to = false → rcut m A B T L f X + s = dcut m A B T L X) → κ 13 [.ref kF, .int (nI frm), .int (nI to), .int (nI s), .int (nI i), .null] [] M := by
    intro k
    induction k using Nat.strongRecOn with
    | _ k ih =>
      intro s i f M hs his hfr hR hcut
      refine B_X1_greatest_13 hk ⟨fun w => absurd w (nI_ge (b := 2000) (by omega) (by decide)), fun _ => ?_⟩
      rw [bts_one (n := 12) (by decide) hto]
      refine ⟨_, S_search (by omega) M hR hfrm, fun y2 μ3 hq => ?_⟩
      obtain ⟨q1, q2⟩ := hq
      have hR3 := q1.R hR
      have hfr3 := hfr.tr q1.N
      rcases q2 with ⟨e, R, r1, r2, r3, r4, r5⟩ | ⟨to', l, ix, e, p1, p2, p3, p4, p5⟩
      · cases e
        refine ⟨fun w => absurd rfl w, fun _ => ⟨hfr3, s, R, f, rfl, hR3, r1, ⟨r2, ?_, ?_, fun X h1 h2 => ?_, fun X h1 h2 h3 => ?_⟩, by omega, fun x hx => (r4 x hx).1, hcut⟩⟩
        · cases e : R to with
          | false => rfl
          | true =>
            have := (r4 to e).2
            simp at this
        · have hto' : R to = false := by
            cases e : R to with
            | false => rfl
            | true =>
              have := (r4 to e).2
              simp at this
          rw [← hcut R r2 hto', rcut_0 r3, Nat.zero_add]
        · have := hcut X h1 h2
          omega
        · have := hcut X h1 h2
          exact r5 X h1 (rclo_of (by omega))
      · have : to' = to := by simpa using p2
        subst this
        cases e
        refine ⟨fun _ => ?_, fun w => absurd w (nI_ne_m1 (by omega))⟩
        refine ⟨_, S_narrowest (by omega) μ3 hR3 hfrm p1 p3 p4 p5, fun y8 μ9 hq => ?_⟩
        obtain ⟨e1, e2⟩ := hq
        cases e1
        subst e2
        have hpos := fwM_pos (v := 2000) p3 (by decide)
        have hmle := (fwM_le (A := A) (B := B) (T := T) (L := L) (f := f) (l := l) (v := 2000)).2
        generalize fwM A B T L f l 2000 = n at hpos hmle ⊢
        refine ⟨_, S_push _ hR3 hfrm p1 p3 p4 p5 hmle, fun μ14 hq => ?_⟩
        obtain ⟨u1, u2⟩ := hq
        have cutE := (fwL_all hR3.toA.ne p3 hR3.2.2.2 hmle).2
        rw [nI_add, nI_1]
        have hcut' : ∀ X : Nat → Bool, X frm = true → X to' = false → rcut m A B T L (fwL A n l f) X + (s + n) = dcut m A B T L X := by
          intro X h1 h2
          have e1 := hcut X h1 h2
          have e2 := cutE X
          rw [if_pos h1, if_neg (by rw [h2]; decide)] at e2
          omega
        have hlim := hcut' (fun x => decide (x = frm)) (by simp) (by simpa using fun e => hne e.symm)
        have hlim2 := dcut_le (A := A) (B := B) (T := T) hL hm (fun x => decide (x = frm))
        exact ih (1281 - (s + n)) (by omega) (s + n) (i + 1) (fwL A n l f) μ14 (by omega) (by omega) (hfr3.tr (frN_net u1)) u2 hcut'
  exact go 1281 0 0 L μ2 rfl (Nat.le_refl _) f0 R0 (fun X _ _ => rfl)
end GR
