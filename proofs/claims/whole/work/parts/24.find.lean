/-! Routes.setSteps, trace, find: the first DOOR that keeps to the fixed point, and the row of DOORS by it -/
def bf_tb (A B : Nat → Nat) (T : Nat → Bool) (C f : Nat → Nat) (d u : Nat) : Bool := !(C d == 0) && ((A d == u && f u == f (B d) + C d) || (T d && (B d == u && f u == f (A d) + C d)))
def bf_nx (p : Nat → Bool) : Nat → Option Nat
  | 0 => none
  | n + 1 => match bf_nx p n with
    | some d => some d
    | none => if p n = true then some n else none
theorem bf_nx_some {p : Nat → Bool} : ∀ {n d : Nat}, bf_nx p n = some d ↔ d < n ∧ p d = true ∧ ∀ e, e < d → p e = false
  | 0, d => by simp [bf_nx]
  | n + 1, d => by
    unfold bf_nx
    cases h : bf_nx p n with
    | some e =>
      have he := (bf_nx_some (p := p) (n := n) (d := e)).mp h
      constructor
      · intro q
        cases q
        exact ⟨by omega, he.2⟩
      · intro q
        have : d = e := by
          rcases Nat.lt_trichotomy d e with z | z | z
          · have := he.2.2 d z; rw [q.2.1] at this; cases this
          · exact z
          · have := q.2.2 e z; rw [he.2.1] at this; cases this
        rw [this]
    | none =>
      have hn : ∀ e, e < n → p e = false := by
        intro e he
        cases hp : p e with
        | false => rfl
        | true =>
          exfalso
          have : ∀ m, m ≤ n → ∀ x, x < m → p x = true → ∃ y, bf_nx p m = some y := by
            intro m
            induction m with
            | zero => intro _ x hx; omega
            | succ m ih =>
              intro hm x hx hpx
              unfold bf_nx
              cases hh : bf_nx p m with
              | some y => exact ⟨y, rfl⟩
              | none =>
                by_cases hxm : x = m
                · subst hxm
                  exact ⟨x, by rw [if_pos hpx]⟩
                · obtain ⟨y, hy⟩ := ih (by omega) x (by omega) hpx
                  rw [hh] at hy
                  cases hy
          obtain ⟨y, hy⟩ := this n (Nat.le_refl n) e he hp
          rw [h] at hy
          cases hy
      by_cases hp : p n = true
      · simp only [if_pos hp, Option.some.injEq]
        constructor
        · rintro rfl
          exact ⟨by omega, hp, hn⟩
        · intro q
          apply Classical.byContradiction
          intro z
          have := hn d (by omega)
          rw [q.2.1] at this
          cases this
      · simp only [if_neg hp]
        constructor
        · intro q; cases q
        · intro q
          exfalso
          by_cases z : d = n
          · subst z; exact hp q.2.1
          · have := hn d (by omega)
            rw [q.2.1] at this
            cases this
theorem bf_nx_ex {p : Nat → Bool} : ∀ {n d : Nat}, d < n → p d = true → ∃ e, bf_nx p n = some e
  | 0, _, h, _ => by omega
  | n + 1, d, h, hp => by
    unfold bf_nx
    cases hh : bf_nx p n with
    | some y => exact ⟨y, rfl⟩
    | none =>
      by_cases hxm : d = n
      · subst hxm
        exact ⟨d, by rw [if_pos hp]⟩
      · obtain ⟨y, hy⟩ := bf_nx_ex (n := n) (d := d) (by omega) hp
        rw [hh] at hy
        cases hy
theorem bf_nx_congr {p q : Nat → Bool} : ∀ {n : Nat}, (∀ d, d < n → p d = q d) → bf_nx p n = bf_nx q n
  | 0, _ => rfl
  | n + 1, h => by
    unfold bf_nx
    rw [bf_nx_congr (n := n) (fun d hd => h d (by omega)), h n (by omega)]
/-- the row of DOORS from u -/
def bf_pt (A B : Nat → Nat) (nx : Nat → Option Nat) (goal : Nat) : Nat → Nat → List Nat
  | 0, _ => []
  | k + 1, u => if u = goal then [] else match nx u with
    | none => []
    | some d => d :: bf_pt A B nx goal k (if A d = u then B d else A d)
theorem bf_tb_iff {A B : Nat → Nat} {T : Nat → Bool} {C f : Nat → Nat} {d u : Nat} : bf_tb A B T C f d u = true ↔ C d ≠ 0 ∧ ((A d = u ∧ f u = f (B d) + C d) ∨ (T d = true ∧ B d = u ∧ f u = f (A d) + C d)) := by
  simp [bf_tb]
theorem i32_m1 (x : Int32) : x + (-1) = x - 1 := by rw [Int32.sub_eq_add_neg]
/-- the DOOR at hand is the first one of those behind it too -/
theorem bf_first {p : Nat → Bool} {i n d : Nat} (h : ∀ e, i ≤ e → e < d → p e = false) (hd : i ≤ d) (hp : p i = true) : d = i ∨ d < i := by
  rcases Nat.lt_trichotomy d i with z | z | z
  · exact Or.inr z
  · exact Or.inl z
  · have := h i (Nat.le_refl i) z; rw [hp] at this; cases this
set_option maxHeartbeats 4000000 in
theorem S_setSteps {D n : Nat} {A B : Nat → Nat} {T : Nat → Bool} {C f : Nat → Nat} (μ : m2M) (hg : cg μ n A B T) (hc : cc_ μ n C) (hf : ∀ u, u < 12 → μ.1 kR_dist u = nI (f u) ∧ f u ≤ 268435456) : m2_MT D yX8_setSteps cX8_setSteps 4 none [.ref kR] μ (fun _ μ' => ∃ s : Nat → Int32, μ' = m2_sr μ kR_step s ∧ ∀ u, u < 12 → ∀ d, bf_nx (fun d => bf_tb A B T C f d u) n = some d → s u = nI d) := by
  obtain ⟨hn, hn20, hd⟩ := hg
  refine m2_MT.intro (ls := [.ref kR, .null, .null, .null]) (by decide +kernel) rfl (Nat.le_of_ble_eq_true rfl) (fun κ h => ?_)
  have loop : ∀ (i : Nat) (s : Nat → Int32), i ≤ n → (∀ u, u < 12 → ∀ d, i ≤ d → d < n → bf_tb A B T C f d u = true → (∀ e, i ≤ e → e < d → bf_tb A B T C f e u = false) → s u = nI d) → κ 10 [.ref kR, .int (nI i - 1), .null, .null] [] (m2_sr μ kR_step s) := by
    intro i
    induction i with
    | zero =>
      intro s hi hs
      refine B_X8_setSteps_10 h ⟨fun _ => ⟨s, rfl, fun u hu d hdd => ?_⟩, fun q => absurd (by decide) q⟩
      obtain ⟨h1, h2, h3⟩ := bf_nx_some.mp hdd
      exact hs u hu d (Nat.zero_le d) h1 h2 (fun e _ he => h3 e he)
    | succ i ih =>
      intro s hi hs
      have hlt : i < n := by omega
      obtain ⟨ea, hA, eb, hB, hab, et⟩ := hd i hlt
      obtain ⟨ec, hC⟩ := hc i hlt
      have cl : (nI i).toNatClampNeg = i := nI_clamp (by omega)
      have ca : (nI (A i)).toNatClampNeg = A i := nI_clamp (by omega)
      have cb : (nI (B i)).toNatClampNeg = B i := nI_clamp (by omega)
      have fa := hf (A i) hA
      have fb := hf (B i) hB
      rw [nI_pred]
      have go116 : ∀ (s' : Nat → Int32), (∀ u, u < 12 → ∀ d, i ≤ d → d < n → bf_tb A B T C f d u = true → (∀ e, i ≤ e → e < d → bf_tb A B T C f e u = false) → s' u = nI d) → κ 10 [.ref kR, .int (nI i + (-1)), .null, .null] [] (m2_sr μ kR_step s') := by
        intro s' hs'
        rw [i32_m1]
        exact ih s' (by omega) hs'
      refine B_X8_setSteps_10 h ⟨fun q => absurd q (nI_pos (by omega)), fun _ => ⟨vp_in_nI (by omega) (by decide), ?_, ?_⟩⟩
      · have e1 : (m2_sr μ kR_step s).1 kR_cost i = nI (C i) := ec
        have e2 : (m2_sr μ kR_step s).1 kD_a i = nI (A i) := ea
        have e3 : (m2_sr μ kR_step s).1 kD_b i = nI (B i) := eb
        have e5 : (m2_sr μ kR_step s).1 kR_dist (A i) = nI (f (A i)) := fa.1
        have e6 : (m2_sr μ kR_step s).1 kR_dist (B i) = nI (f (B i)) := fb.1
        have e4 : (m2_sr μ kR_step s).1 kD_oneWay i = (if T i = true then 0 else 1) := et
        simp only [cl, e1, e2, e3, e4, ca, cb, e5, e6, nI_add, m2_si_sr]
        intro hc0
        have hc1 : C i ≠ 0 := fun z => hc0 (by rw [z, nI_0])
        -- from 75 on, with s1 that has the DOOR at a, if it is due there
        have at75 : ∀ s1 : Nat → Int32, (∀ u, u ≠ A i → s1 u = s u) → (f (A i) = f (B i) + C i → s1 (A i) = nI i) → (¬ f (A i) = f (B i) + C i → s1 (A i) = s (A i)) → (¬ (if T i = true then (0 : Int32) else 1) = 0 → κ 10 [.ref kR, .int (nI i + (-1)), .null, .null] [] (m2_sr μ kR_step s1)) ∧ ((if T i = true then (0 : Int32) else 1) = 0 → (¬ nI (f (B i)) = nI (f (A i) + C i) → κ 10 [.ref kR, .int (nI i + (-1)), .null, .null] [] (m2_sr μ kR_step s1)) ∧ (nI (f (B i)) = nI (f (A i) + C i) → κ 10 [.ref kR, .int (nI i + (-1)), .null, .null] [] (m2_sr μ kR_step (upd s1 (B i) (nI i))))) := by
          intro s1 h1 h2 h3
          have done : ∀ s2 : Nat → Int32, (∀ u, u ≠ A i → u ≠ B i → s2 u = s u) → (f (A i) = f (B i) + C i → s2 (A i) = nI i) → (¬ f (A i) = f (B i) + C i → s2 (A i) = s (A i)) → (T i = true ∧ f (B i) = f (A i) + C i → s2 (B i) = nI i) → (¬ (T i = true ∧ f (B i) = f (A i) + C i) → s2 (B i) = s (B i)) → (∀ u, u < 12 → ∀ d, i ≤ d → d < n → bf_tb A B T C f d u = true → (∀ e, i ≤ e → e < d → bf_tb A B T C f e u = false) → s2 u = nI d) := by
            intro s2 g1 g2 g3 g4 g5 u hu d hid hdn hp hfst
            by_cases hpi : bf_tb A B T C f i u = true
            · have hdi : d = i := by
                rcases Nat.lt_or_ge i d with z | z
                · have := hfst i (Nat.le_refl i) z; rw [hpi] at this; cases this
                · omega
              subst hdi
              rcases (bf_tb_iff.mp hpi).2 with ⟨rfl, q⟩ | ⟨t, rfl, q⟩
              · exact g2 q
              · exact g4 ⟨t, q⟩
            · have hne : d ≠ i := fun z => hpi (z ▸ hp)
              have hold := hs u hu d (by omega) hdn hp (fun e h1 h2 => hfst e (by omega) h2)
              by_cases hua : u = A i
              · subst hua
                rw [g3 (fun q => hpi (bf_tb_iff.mpr ⟨hc1, Or.inl ⟨rfl, q⟩⟩))]
                exact hold
              · by_cases hub : u = B i
                · subst hub
                  rw [g5 (fun q => hpi (bf_tb_iff.mpr ⟨hc1, Or.inr ⟨q.1, rfl, q.2⟩⟩))]
                  exact hold
                · rw [g1 u hua hub]
                  exact hold
          refine ⟨fun ht => ?_, fun ht => ⟨fun q => ?_, fun q => ?_⟩⟩
          · have hT : ¬ T i = true := fun z => ht (by rw [if_pos z])
            exact go116 s1 (done s1 (fun u z _ => h1 u z) h2 h3 (fun z => absurd z.1 hT) (fun _ => h1 _ (Ne.symm hab)))
          · have q1 : ¬ f (B i) = f (A i) + C i := fun z => q (by rw [z])
            exact go116 s1 (done s1 (fun u z _ => h1 u z) h2 h3 (fun z => absurd z.2 q1) (fun _ => h1 _ (Ne.symm hab)))
          · have q1 : f (B i) = f (A i) + C i := (nI_eq (by omega) (by omega)).mp q
            have hT : T i = true := by
              cases hq : T i with
              | true => rfl
              | false => rw [hq] at ht; simp at ht
            refine go116 _ (done _ (fun u z1 z2 => ?_) (fun z => ?_) (fun z => ?_) (fun _ => ?_) (fun z => absurd ⟨hT, q1⟩ z))
            · unfold upd; rw [if_neg z2]; exact h1 u z1
            · unfold upd; rw [if_neg hab]; exact h2 z
            · unfold upd; rw [if_neg hab]; exact h3 z
            · unfold upd; rw [if_pos rfl]
        refine ⟨vp_in_nI hA (by decide), vp_in_nI hB (by decide), fun q => ?_, fun q => ?_⟩
        · have q1 : ¬ f (A i) = f (B i) + C i := fun z => q (by rw [z])
          exact at75 s (fun _ _ => rfl) (fun z => absurd z q1) (fun _ => rfl)
        · have q1 : f (A i) = f (B i) + C i := (nI_eq (by omega) (by omega)).mp q
          refine at75 _ (fun u z => ?_) (fun _ => ?_) (fun z => absurd q1 z)
          · unfold upd; rw [if_neg z]
          · unfold upd; rw [if_pos rfl]
      · have e1 : (m2_sr μ kR_step s).1 kR_cost i = nI (C i) := ec
        simp only [cl, e1]
        intro hc0
        have hc1 : C i = 0 := (nI_eq (a := C i) (b := 0) (by omega) (by decide)).mp (by rw [hc0, nI_0])
        refine go116 s (fun u hu d hid hdn hp hfst => ?_)
        have hne : d ≠ i := by
          intro z
          subst z
          exact (bf_tb_iff.mp hp).1 hc1
        exact hs u hu d (by omega) hdn hp (fun e h1 h2 => hfst e (by omega) h2)
  refine B_X8_setSteps_0 h ?_
  have e := loop n (μ.1 kR_step) (Nat.le_refl n) (fun u hu d h1 h2 => by omega)
  rw [m2_sr_id] at e
  rw [hn]
  exact e
set_option maxHeartbeats 4000000 in
theorem S_trace {D n frm goal : Nat} {A B : Nat → Nat} {T : Nat → Bool} {C f : Nat → Nat} (μ : m2M) (hg : cg μ n A B T) (hfrm : frm < 12) (hgoal : goal < 12) (hF : bf_F A B T C n 268435456 goal f) (hf : μ.1 kR_dist frm = nI (f frm)) (hs : ∀ u, u < 12 → ∀ d, bf_nx (fun d => bf_tb A B T C f d u) n = some d → μ.1 kR_step u = nI d) : m2_MT D yX8_trace cX8_trace 7 (some .int) [.ref kR, .int (nI frm), .int (nI goal)] μ (fun r μ' => (f frm < 268435456 → ∃ g : Nat → Int32, μ' = m2_sr μ kR_found g ∧ r = some (.int (nI (bf_pt A B (fun u => bf_nx (fun d => bf_tb A B T C f d u) n) goal 12 frm).length)) ∧ ∀ i d, (bf_pt A B (fun u => bf_nx (fun d => bf_tb A B T C f d u) n) goal 12 frm)[i]? = some d → g i = nI d) ∧ (¬ f frm < 268435456 → μ' = μ ∧ r = some (.int (-1)))) := by
  obtain ⟨hn, hn20, hd⟩ := hg
  refine m2_MT.intro (ls := [.ref kR, .int (nI frm), .int (nI goal), .null, .null, .null, .null]) (by decide +kernel) rfl (Nat.le_of_ble_eq_true rfl) (fun κ h => ?_)
  have cl : (nI frm).toNatClampNeg = frm := nI_clamp (by omega)
  have hle := hF.2.1 frm
  generalize hnx : (fun u => bf_nx (fun d => bf_tb A B T C f d u) n) = nx at *
  have tight : ∀ u, u < 12 → u ≠ goal → f u < 268435456 → ∃ d, nx u = some d ∧ d < n ∧ μ.1 kR_step u = nI d ∧ (if A d = u then B d else A d) < 12 ∧ f (if A d = u then B d else A d) < 268435456 := by
    intro u hu hug hfu
    obtain ⟨v, w, ⟨e, h1, h2, h3, h4⟩, h5⟩ := hF.2.2.2 u hug hfu
    have hp : bf_tb A B T C f e u = true := by
      refine bf_tb_iff.mpr ⟨h2, ?_⟩
      rcases h4 with ⟨rfl, rfl⟩ | ⟨t, rfl, rfl⟩
      · exact Or.inl ⟨rfl, by omega⟩
      · exact Or.inr ⟨t, rfl, by omega⟩
    obtain ⟨d, hdd⟩ := bf_nx_ex (p := fun d => bf_tb A B T C f d u) h1 hp
    obtain ⟨g1, g2, g3⟩ := bf_nx_some.mp hdd
    have hdn := hd d g1
    refine ⟨d, by rw [← hnx]; exact hdd, g1, hs u hu d hdd, ?_⟩
    obtain ⟨c1, c2⟩ := bf_tb_iff.mp g2
    rcases c2 with ⟨rfl, q⟩ | ⟨t, rfl, q⟩
    · rw [if_pos rfl]
      exact ⟨hdn.2.2.2.1, by omega⟩
    · rw [if_neg hdn.2.2.2.2.1]
      exact ⟨hdn.2.1, by omega⟩
  have loop : ∀ (k i u : Nat) (g : Nat → Int32) (pre : List Nat), i + k = 12 → pre.length = i → u < 12 → f u < 268435456 → (∀ j d, pre[j]? = some d → g j = nI d) → pre ++ bf_pt A B nx goal k u = bf_pt A B nx goal 12 frm → f frm < 268435456 → κ 21 [.ref kR, .int (nI frm), .int (nI goal), .int (nI i), .int (nI u), .int (nI i), .null] [] (m2_sr μ kR_found g) := by
    intro k
    induction k with
    | zero =>
      intro i u g pre hi hpl hu hfu hpre hpt hff
      have hi : i = 12 := by omega
      subst hi
      refine B_X8_trace_21 h ⟨fun _ => ⟨fun _ => ⟨g, rfl, ?_, ?_⟩, fun z => absurd hff z⟩, fun q => absurd (by decide) q⟩
      · rw [← hpt]
        simp [bf_pt, hpl]
      · rw [← hpt]
        simpa [bf_pt] using hpre
    | succ k ih =>
      intro i u g pre hi hpl hu hfu hpre hpt hff
      refine B_X8_trace_21 h ⟨fun q => absurd (show nI 12 ≤ nI i from q) (nI_ge (by omega) (by omega)), fun _ => ⟨fun q => ?_, fun q => ?_⟩⟩
      · have hug : u = goal := (nI_eq (by omega) (by omega)).mp q
        refine ⟨fun _ => ⟨g, rfl, ?_, ?_⟩, fun z => absurd hff z⟩
        · rw [← hpt]
          simp [bf_pt, hug, hpl]
        · rw [← hpt]
          simpa [bf_pt, hug] using hpre
      · have hug : u ≠ goal := fun z => q (by rw [z])
        obtain ⟨d, t1, t2, t3, t4, t5⟩ := tight u hu hug hfu
        obtain ⟨ea, hA, eb, hB, hab, et⟩ := hd d t2
        have cu : (nI u).toNatClampNeg = u := nI_clamp (by omega)
        have ci : (nI i).toNatClampNeg = i := nI_clamp (by omega)
        have cd : (nI d).toNatClampNeg = d := nI_clamp (by omega)
        have e1 : (m2_sr μ kR_found g).1 kR_step u = nI d := t3
        have e2 : (m2_sr μ kR_found g).1 kD_a d = nI (A d) := ea
        have e3 : (m2_sr μ kR_found g).1 kD_b d = nI (B d) := eb
        rw [cu, ci, e1, cd, e2, e3, nI_1, m2_si_sr]
        have nxt : ∀ v : Nat, v = (if A d = u then B d else A d) → κ 21 [.ref kR, .int (nI frm), .int (nI goal), .int (nI (i + 1)), .int (nI v), .int (nI (i + 1)), .null] [] (m2_sr μ kR_found (upd g i (nI d))) := by
          intro v hv
          subst hv
          refine ih (i + 1) _ _ (pre ++ [d]) (by omega) (by simp [hpl]) t4 t5 (fun j e hj => ?_) ?_ hff
          · unfold upd
            by_cases hji : j = i
            · subst hji
              rw [List.getElem?_append_right (by omega), hpl] at hj
              simp at hj
              rw [if_pos rfl, hj]
            · rw [if_neg hji]
              have hlt : j < pre.length := by
                have := (List.getElem?_eq_some_iff.mp hj).1
                simp at this
                omega
              rw [List.getElem?_append_left hlt] at hj
              exact hpre j e hj
          · rw [← hpt]
            simp [bf_pt, hug, t1]
        refine ⟨vp_in_nI hu (by decide), vp_in_nI (by omega) (by decide), vp_in_nI (by omega) (by decide), fun z => ?_, fun z => ?_⟩
        · refine nxt (A d) ?_
          rw [if_neg (fun w => z (by rw [w]))]
        · refine nxt (B d) ?_
          rw [if_pos ((nI_eq (by omega) (by omega)).mp z)]
  refine B_X8_trace_0 h ?_
  rw [cl, hf]
  refine ⟨vp_in_nI hfrm (by decide), fun q => ?_, fun q => ?_⟩
  · have q1 : f frm < 268435456 := (nI_ltI (b := 268435456) (by omega) (by decide)).mp q
    have e := loop 12 0 frm (μ.1 kR_found) [] (by omega) rfl hfrm q1 (fun j d hj => by simp at hj) (by simp) q1
    rw [m2_sr_id, nI_0] at e
    exact e
  · have q1 : ¬ f frm < 268435456 := fun z => q ((nI_ltI (b := 268435456) (by omega) (by decide)).mpr z)
    exact ⟨fun z => absurd z q1, fun _ => ⟨rfl, rfl⟩⟩
/-- what Routes.find may change: dist, step, found -/
def r_junk (μ μ' : m2M) : Prop := ∃ g1 g2 g3 : Nat → Int32, μ' = m2_sr (m2_sr (m2_sr μ kR_dist g1) kR_step g2) kR_found g3
/-- the row of DOORS from one ROOM to another by these costs -/
def wy_f (A B : Nat → Nat) (T : Nat → Bool) (C : Nat → Nat) (n far goal : Nat) : Nat → Nat := bf_it A B T C n 12 (bf_in far goal)
theorem wy_F {A B : Nat → Nat} {T : Nat → Bool} {C : Nat → Nat} {n far goal : Nat} (hN : ∀ d, d < n → A d < 12 ∧ B d < 12) (hAB : ∀ d, d < n → A d ≠ B d) (hgoal : goal < 12) : bf_F A B T C n far goal (wy_f A B T C n far goal) := by
  obtain ⟨f, hF, hall, -⟩ := bf_all (T := T) (C := C) (n := n) (N := 12) (far := far) (goal := goal) hN hAB
  have h1 : ∀ u, wy_f A B T C n far goal u = f u := by
    intro u
    by_cases hu : u < 12
    · exact hall 12 (by omega) u hu
    · have o1 : ∀ k, bf_it A B T C n k (bf_in far goal) u = far := by
        intro k
        induction k with
        | zero =>
          show bf_in far goal u = far
          unfold bf_in
          rw [if_neg (by omega)]
        | succ k ih =>
          show bf_ps A B T C n (bf_it A B T C n k (bf_in far goal)) u = far
          rw [bf_ps_out (N := 12) (by omega) hN, ih]
      have o2 : f u = far := by
        by_cases hfu : f u < far
        · obtain ⟨v, w, e1, -⟩ := hF.2.2.2 u (by omega) hfu
          have := bf_E_lt hN e1
          omega
        · have := hF.2.1 u; omega
      rw [o2]
      exact o1 12
  rw [show wy_f A B T C n far goal = f from funext h1]
  exact hF
def wy (A B : Nat → Nat) (T : Nat → Bool) (C : Nat → Nat) (n far frm goal : Nat) : Option (List Nat) := if wy_f A B T C n far goal frm < far then some (bf_pt A B (fun u => bf_nx (fun d => bf_tb A B T C (wy_f A B T C n far goal) d u) n) goal 12 frm) else none
set_option maxHeartbeats 4000000 in
theorem S_find {D n frm goal : Nat} (hD : 2 ≤ D) {A B : Nat → Nat} {T : Nat → Bool} {C : Nat → Nat} (μ : m2M) (hg : cg μ n A B T) (hc : cc_ μ n C) (hfrm : frm < 12) (hgoal : goal < 12) : m2_MT D yX8_find cX8_find 3 (some .int) [.ref kR, .int (nI frm), .int (nI goal)] μ (fun r μ' => r_junk μ μ' ∧ match wy A B T C n 268435456 frm goal with
    | none => r = some (.int (-1))
    | some l => r = some (.int (nI l.length)) ∧ ∀ i d, l[i]? = some d → μ'.1 kR_found i = nI d) := by
  obtain ⟨D, rfl⟩ : ∃ E, D = E + 1 := ⟨D - 1, by omega⟩
  have hF := wy_F (T := T) (C := C) (far := 268435456) (fun d h => ⟨(hg.2.2 d h).2.1, (hg.2.2 d h).2.2.2.1⟩) (fun d h => (hg.2.2 d h).2.2.2.2.1) hgoal
  refine m2_MT.intro (ls := [.ref kR, .int (nI frm), .int (nI goal)]) (by decide +kernel) rfl (Nat.le_of_ble_eq_true rfl) (fun κ h => ?_)
  refine B_X8_find_0 h ⟨_, S_measure (by omega) μ hg hc hgoal hF, fun μ2 hq => ?_⟩
  obtain ⟨g1, rfl, hg1⟩ := hq
  have hd1 : (m2_sr μ kR_dist g1).1 kR_dist = g1 := m2_sr_same _ _ _
  refine ⟨_, S_setSteps (m2_sr μ kR_dist g1) hg hc (fun u hu => ⟨by rw [hd1]; exact hg1 u hu, hF.2.1 u⟩), fun μ3 hq => ?_⟩
  obtain ⟨g2, rfl, hg2⟩ := hq
  have hd2 : (m2_sr (m2_sr μ kR_dist g1) kR_step g2).1 kR_step = g2 := m2_sr_same _ _ _
  have hd3 : (m2_sr (m2_sr μ kR_dist g1) kR_step g2).1 kR_dist = g1 := hd1
  refine ⟨_, S_trace (m2_sr (m2_sr μ kR_dist g1) kR_step g2) hg hfrm hgoal hF (by rw [hd3]; exact hg1 frm hfrm) (fun u hu d hdd => by rw [hd2]; exact hg2 u hu d hdd), fun y μ4 hq => ?_⟩
  unfold wy
  by_cases hlt : wy_f A B T C n 268435456 goal frm < 268435456
  · obtain ⟨g3, rfl, hr, hg3⟩ := hq.1 hlt
    rw [if_pos hlt]
    refine ⟨⟨g1, g2, g3, rfl⟩, hr, fun i d hi => ?_⟩
    rw [m2_sr_same]
    exact hg3 i d hi
  · obtain ⟨rfl, hr⟩ := hq.2 hlt
    rw [if_neg hlt]
    exact ⟨⟨g1, g2, μ.1 kR_found, (m2_sr_id (m2_sr (m2_sr μ kR_dist g1) kR_step g2) kR_found).symm⟩, hr⟩
