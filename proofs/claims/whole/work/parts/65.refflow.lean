/-! the reference's flow: cuts of its table, findMore, flow -/
def updN (c : Nat → Nat) (k v : Nat) : Nat → Nat := fun j => if j = k then v else c j
theorem updN_at (c : Nat → Nat) (k v : Nat) : updN c k v k = v := if_pos rfl
theorem updN_ne {c : Nat → Nat} {k v j : Nat} (h : j ≠ k) : updN c k v j = c j := if_neg h
def crs (X : Nat → Bool) (k : Nat) : Bool := X (k / 14) && !X (k % 14)
theorem crs_of (X : Nat → Bool) {r s : Nat} (hs : s < 14) : crs X (14 * r + s) = (X r && !X s) := by
  unfold crs
  rw [show (14 * r + s) / 14 = r by omega, show (14 * r + s) % 14 = s by omega]
def cutC (c : Nat → Nat) (X : Nat → Bool) : Nat := sumN (fun k => if crs X k = true then c k else 0) 196
theorem cutC_upd {c : Nat → Nat} {k v : Nat} (X : Nat → Bool) (hk : k < 196) : cutC (updN c k v) X + (if crs X k = true then c k else 0) = cutC c X + (if crs X k = true then v else 0) := by
  refine sumN_one hk (fun i hi hne => ?_) ?_
  · rw [updN_ne hne]
  · rw [updN_at]
    split <;> omega
def closM (c : Nat → Nat) (X : Nat → Bool) : Prop := ∀ r s, r < 14 → s < 14 → X r = true → 0 < c (14 * r + s) → X s = true
theorem cutC_0 {c : Nat → Nat} {X : Nat → Bool} (h : closM c X) : cutC c X = 0 := by
  refine sumN_of0 (fun k hk => ?_)
  by_cases z : crs X k = true
  · rw [if_pos z]
    unfold crs at z
    simp only [Bool.and_eq_true, Bool.not_eq_true'] at z
    apply Classical.byContradiction
    intro w
    have := h (k / 14) (k % 14) (by omega) (by omega) z.1 (by rw [show 14 * (k / 14) + k % 14 = k by omega]; omega)
    rw [z.2] at this
    cases this
  · rw [if_neg z]
theorem closM_of {c : Nat → Nat} {X : Nat → Bool} (h : cutC c X = 0) : closM c X := by
  intro r s hr hs hX hc
  cases e : X s with
  | true => rfl
  | false =>
    have := sumN_zero h (14 * r + s) (by omega)
    rw [if_pos (by rw [crs_of X hs, hX, e]; rfl)] at this
    omega
def bpm (c ix : Nat → Nat) (came : Nat → Int32) (frm : Nat) : List Nat → Nat → Prop
  | [], r => r = frm
  | u :: l, r => r ≠ frm ∧ u < 14 ∧ r < 14 ∧ 0 < c (14 * u + r) ∧ ix u < ix r ∧ came r = nI u ∧ bpm c ix came frm l u
def stpM (n : Nat) (c : Nat → Nat) (u r : Nat) : Nat → Nat := updN (updN c (14 * u + r) (c (14 * u + r) - n)) (14 * r + u) (c (14 * r + u) + n)
def pshM (n : Nat) : List Nat → Nat → (Nat → Nat) → Nat → Nat
  | [], _, c => c
  | u :: l, r, c => pshM n l u (stpM n c u r)
def minM (c : Nat → Nat) : List Nat → Nat → Nat → Nat
  | [], _, v => v
  | u :: l, r, v => minM c l u (min v (c (14 * u + r)))
def leM (n : Nat) (c : Nat → Nat) : List Nat → Nat → Prop
  | [], _ => True
  | u :: l, r => n ≤ c (14 * u + r) ∧ leM n c l u
theorem minM_le {c : Nat → Nat} : ∀ {l : List Nat} {r v : Nat}, minM c l r v ≤ v ∧ leM (minM c l r v) c l r
  | [], _, v => ⟨Nat.le_refl v, trivial⟩
  | u :: l, r, v => by
    obtain ⟨h1, h2⟩ := minM_le (c := c) (l := l) (r := u) (v := min v (c (14 * u + r)))
    refine ⟨?_, ?_, h2⟩
    · show minM c l u (min v (c (14 * u + r))) ≤ v
      omega
    · show minM c l u (min v (c (14 * u + r))) ≤ _
      omega
theorem minM_pos {c ix : Nat → Nat} {came : Nat → Int32} {frm : Nat} : ∀ {l : List Nat} {r v : Nat}, bpm c ix came frm l r → 0 < v → 0 < minM c l r v
  | [], _, v, _, h => h
  | u :: l, r, v, h, hv => minM_pos (l := l) (r := u) h.2.2.2.2.2.2 (by have := h.2.2.2.1; omega)
theorem stpM_o {n u r u' v : Nat} {c : Nat → Nat} (hv : v < 14) (hr : r < 14) (hu : u < 14) (h1 : v ≠ r) (h2 : u' ≠ r) : stpM n c u r (14 * u' + v) = c (14 * u' + v) := by
  unfold stpM
  rw [updN_ne (by omega), updN_ne (by omega)]
theorem stpM_cut {n u r : Nat} {c : Nat → Nat} (X : Nat → Bool) (hr : r < 14) (hu : u < 14) (hne : u ≠ r) (hn : n ≤ c (14 * u + r)) : cutC (stpM n c u r) X + (if X u = true then n else 0) = cutC c X + (if X r = true then n else 0) := by
  have e1 := cutC_upd (c := c) (k := 14 * u + r) (v := c (14 * u + r) - n) X (by omega)
  have e2 := cutC_upd (c := updN c (14 * u + r) (c (14 * u + r) - n)) (k := 14 * r + u) (v := c (14 * r + u) + n) X (by omega)
  rw [updN_ne (show 14 * r + u ≠ 14 * u + r by omega), crs_of X hu] at e2
  rw [crs_of X hr] at e1
  unfold stpM
  revert e1 e2
  cases e3 : X u <;> cases e4 : X r <;> simp <;> omega
theorem bpm_o {n u r frm : Nat} {c ix : Nat → Nat} {came : Nat → Int32} (hr : r < 14) (hu : u < 14) : ∀ {l : List Nat} {v : Nat}, ix v < ix r → bpm c ix came frm l v → leM n c l v → bpm (stpM n c u r) ix came frm l v ∧ leM n (stpM n c u r) l v
  | [], _, _, h, _ => ⟨h, trivial⟩
  | u' :: l, v, hv, h, h' => by
    obtain ⟨h1, h2, h3, h4, h5, h6, h7⟩ := h
    obtain ⟨g1, g2⟩ := h'
    have e : stpM n c u r (14 * u' + v) = c (14 * u' + v) := stpM_o h3 hr hu (fun e => by rw [e] at hv; omega) (fun e => by rw [e] at h5; omega)
    obtain ⟨i1, i2⟩ := bpm_o (n := n) hr hu (by omega) h7 g2
    exact ⟨⟨h1, h2, h3, by rw [e]; exact h4, h5, h6, i1⟩, by rw [e]; exact g1, i2⟩
def ckM (c : Nat → Nat) : Prop := ∀ r s, r < 14 → s < 14 → c (14 * r + s) + c (14 * s + r) ≤ 4000
theorem ckM.le {c : Nat → Nat} (h : ckM c) {k : Nat} (hk : k < 196) : c k ≤ 4000 := by
  have := h (k / 14) (k % 14) (by omega) (by omega)
  rw [show 14 * (k / 14) + k % 14 = k by omega] at this
  omega
theorem stpM_ck {n u r : Nat} {c : Nat → Nat} (h : ckM c) (hr : r < 14) (hu : u < 14) (hne : u ≠ r) (hn : n ≤ c (14 * u + r)) : ckM (stpM n c u r) := by
  intro r' s' hr' hs'
  have hh := h r' s' hr' hs'
  have e1 : stpM n c u r (14 * u + r) = c (14 * u + r) - n := by
    unfold stpM
    rw [updN_ne (by omega), updN_at]
  have e2 : stpM n c u r (14 * r + u) = c (14 * r + u) + n := by
    unfold stpM
    rw [updN_at]
  by_cases z1 : r' = u ∧ s' = r
  · obtain ⟨rfl, rfl⟩ := z1
    rw [e1, e2]
    omega
  · by_cases z2 : r' = r ∧ s' = u
    · obtain ⟨rfl, rfl⟩ := z2
      rw [e1, e2]
      omega
    · have e3 : ∀ a b, a < 14 → b < 14 → ¬ (a = u ∧ b = r) → ¬ (a = r ∧ b = u) → stpM n c u r (14 * a + b) = c (14 * a + b) := by
        intro a b ha hb q1 q2
        unfold stpM
        rw [updN_ne (by omega), updN_ne (by omega)]
      rw [e3 r' s' hr' hs' z1 z2, e3 s' r' hs' hr' (fun q => z2 ⟨q.2, q.1⟩) (fun q => z1 ⟨q.2, q.1⟩)]
      exact hh
theorem pshM_all {n frm : Nat} {ix : Nat → Nat} {came : Nat → Int32} : ∀ {l : List Nat} {r : Nat} {c : Nat → Nat}, bpm c ix came frm l r → leM n c l r → ckM c → ckM (pshM n l r c) ∧ ∀ X : Nat → Bool, cutC (pshM n l r c) X + (if X frm = true then n else 0) = cutC c X + (if X r = true then n else 0)
  | [], r, c, h, _, hc => by
    have h : r = frm := h
    subst h
    exact ⟨hc, fun X => rfl⟩
  | u :: l, r, c, h, h', hc => by
    obtain ⟨h1, h2, h3, h4, h5, h6, h7⟩ := h
    obtain ⟨g1, g2⟩ := h'
    have hne : u ≠ r := fun e => by rw [e] at h5; omega
    obtain ⟨i1, i2⟩ := bpm_o (n := n) h3 h2 h5 h7 g2
    obtain ⟨j1, j2⟩ := pshM_all i1 i2 (stpM_ck hc h3 h2 hne g1)
    refine ⟨j1, fun X => ?_⟩
    have e1 := j2 X
    have e2 := stpM_cut X h3 h2 hne g1
    show cutC (pshM n l u (stpM n c u r)) X + _ = _
    omega
def qM (c : Nat → Nat) (frm : Nat) (came : Nat → Int32) (Qs : List Nat) : Prop := Qs.Nodup ∧ (∀ x, x ∈ Qs → x < 14) ∧ Qs[0]? = some frm ∧ (∀ j r, Qs[j]? = some r → 0 < j → ∃ u j', Qs[j']? = some u ∧ j' < j ∧ came r = nI u ∧ 0 < c (14 * u + r)) ∧ (∀ x, x < 14 → x ∉ Qs → came x = -1) ∧ (∀ x, x ∈ Qs → ¬ came x = -1) ∧ ∀ X : Nat → Bool, X frm = true → closM c X → ∀ x, x ∈ Qs → X x = true
theorem qM_path {c : Nat → Nat} {frm : Nat} {came : Nat → Int32} {Qs : List Nat} (h : qM c frm came Qs) : ∀ (n j r : Nat), j ≤ n → Qs[j]? = some r → ∃ l, bpm c (ixL Qs) came frm l r := by
  intro n
  induction n with
  | zero =>
    intro j r hj hr
    have : j = 0 := by omega
    subst this
    rw [h.2.2.1] at hr
    cases hr
    exact ⟨[], rfl⟩
  | succ n ih =>
    intro j r hj hr
    by_cases z : j = 0
    · subst z
      rw [h.2.2.1] at hr
      cases hr
      exact ⟨[], rfl⟩
    · obtain ⟨u, j', q1, q2, q3, q4⟩ := h.2.2.2.1 j r hr (by omega)
      obtain ⟨l, hl⟩ := ih j' u (by omega) q1
      refine ⟨u :: l, fun e => ?_, h.2.1 u (List.mem_of_getElem? q1), h.2.1 r (List.mem_of_getElem? hr), q4, ?_, q3, hl⟩
      · have := ixL_at h.1 hr
        have := ixL_at h.1 h.2.2.1
        rw [e] at *
        omega
      · rw [ixL_at h.1 hr, ixL_at h.1 q1]
        exact q2
theorem qM_add {c : Nat → Nat} {frm : Nat} {came : Nat → Int32} {Qs : List Nat} (h : qM c frm came Qs) {u x j' : Nat} (hu : Qs[j']? = some u) (hf : 0 < c (14 * u + x)) (hx : x < 14) (hn : x ∉ Qs) : qM c frm (upd came x (nI u)) (Qs ++ [x]) := by
  obtain ⟨h1, h2, h3, h4, h6, h7, h5⟩ := h
  have hj' : j' < Qs.length := (List.getElem?_eq_some_iff.mp hu).1
  have hlen : 0 < Qs.length := by omega
  have hu14 := h2 u (List.mem_of_getElem? hu)
  refine ⟨?_, fun y hy => ?_, ?_, fun j r hr hj => ?_, fun y hy hny => ?_, fun y hy => ?_, fun X hX hc y hy => ?_⟩
  · rw [List.nodup_append]
    refine ⟨h1, by simp, fun a ha b hb => ?_⟩
    have : b = x := by simpa using hb
    subst this
    exact fun e => hn (e ▸ ha)
  · rcases List.mem_append.mp hy with z | z
    · exact h2 y z
    · have : y = x := by simpa using z
      rw [this]; exact hx
  · rw [List.getElem?_append_left hlen]; exact h3
  · by_cases z : j < Qs.length
    · rw [List.getElem?_append_left z] at hr
      obtain ⟨u1, j1, q1, q2, q3, q4⟩ := h4 j r hr hj
      refine ⟨u1, j1, ?_, q2, ?_, q4⟩
      · rw [List.getElem?_append_left (by omega)]; exact q1
      · rw [upd_ne (fun e : r = x => hn (by rw [← e]; exact List.mem_of_getElem? hr))]; exact q3
    · have hjl : j < Qs.length + 1 := by
        have := (List.getElem?_eq_some_iff.mp hr).1
        simpa using this
      have : j = Qs.length := by omega
      subst this
      have : x = r := by simpa using hr
      subst this
      refine ⟨u, j', ?_, hj', upd_at _ _ _, hf⟩
      rw [List.getElem?_append_left hj']; exact hu
  · have e1 : y ∉ Qs := fun e => hny (List.mem_append.mpr (Or.inl e))
    have e2 : y ≠ x := fun e => hny (List.mem_append.mpr (Or.inr (by simp [e])))
    rw [upd_ne e2]
    exact h6 y hy e1
  · rcases List.mem_append.mp hy with z | z
    · rw [upd_ne (fun e : y = x => hn (by rw [← e]; exact z))]
      exact h7 y z
    · have : y = x := by simpa using z
      rw [this, upd_at]
      exact nI_ne_m1 (by omega)
  · have old := h5 X hX hc
    rcases List.mem_append.mp hy with z | z
    · exact old y z
    · have : y = x := by simpa using z
      subst this
      exact hc u y hu14 hx (old u (List.mem_of_getElem? hu)) hf
def isB (c : Nat) : Bool := (c == kM_cameFrom) || (c == kM_queue)
def fmR (c : Nat → Nat) (frm to : Nat) (r : Option Value) (μ' : m2M) : Prop := ∃ R : Nat → Bool, (∀ x, x < 14 → (μ'.1 kM_cameFrom x = -1 ↔ R x = false)) ∧ R frm = true ∧ closM c R ∧ (∀ x, R x = true → x < 14) ∧ (∀ X : Nat → Bool, X frm = true → closM c X → ∀ x, R x = true → X x = true) ∧ ((r = some (.int 0) ∧ R to = false) ∨ (r = some (.int 1) ∧ ∃ (l : List Nat) (ix : Nat → Nat), bpm c ix (μ'.1 kM_cameFrom) frm l to))
theorem can_ix {u s : Nat} : (14 : Int32) * nI u + nI s = nI (14 * u + s) := by
  rw [show (14 : Int32) = nI 14 from rfl, pk_mul, nI_add]
set_option maxHeartbeats 2000000 in
theorem S_findMore {D frm to : Nat} {c : Nat → Nat} (μ : m2M) (hc : ∀ k, k < 196 → μ.1 kM_can k = nI (c k)) (hb : ckM c) (hfrm : frm < 14) (hto : to < 14) : m2_MT D yX12_findMore cX12_findMore 7 (some .boolean) [.ref kM, .int (nI frm), .int (nI to)] μ (fun r μ' => fr isB μ μ' ∧ fmR c frm to r μ') := by
  refine m2_MT.intro (ls := [.ref kM, .int (nI frm), .int (nI to), .null, .null, .null, .null]) (by decide +kernel) rfl (ble rfl) (fun κ hk => ?_)
  refine B_X12_findMore_0 hk ?_
  let hd : List Nat → m2M → Prop := fun Qs M => fr isB μ M ∧ qM c frm (M.1 kM_cameFrom) Qs ∧ (∀ j r, Qs[j]? = some r → M.1 kM_queue j = nI r)
  let cl : List Nat → Nat → Prop := fun Qs n => ∀ j u, j < n → Qs[j]? = some u → ∀ s, s < 14 → 0 < c (14 * u + s) → s ∈ Qs
  have fin : ∀ (Qs : List Nat) (M : m2M), hd Qs M → cl Qs Qs.length → fr isB μ M ∧ fmR c frm to (some (.int (if M.1 kM_cameFrom to = -1 then 0 else 1))) M := by
    intro Qs M hh hcl
    refine ⟨hh.1, fun x => decide (x ∈ Qs), fun x hx => ?_, ?_, ?_, fun x hx => hh.2.1.2.1 x (of_decide_eq_true hx), fun X hX hXc x hx => ?_, ?_⟩
    · refine ⟨fun e => decide_eq_false (fun z => hh.2.1.2.2.2.2.2.1 x z e), fun e => hh.2.1.2.2.2.2.1 x hx (of_decide_eq_false e)⟩
    · exact decide_eq_true (List.mem_of_getElem? hh.2.1.2.2.1)
    · intro r s hr hs hX h0
      obtain ⟨j, hj, ej⟩ := List.getElem_of_mem (of_decide_eq_true hX)
      exact decide_eq_true (hcl j r hj (List.getElem?_eq_some_iff.mpr ⟨hj, ej⟩) s hs h0)
    · exact hh.2.1.2.2.2.2.2.2 X hX hXc x (of_decide_eq_true hx)
    · by_cases z : to ∈ Qs
      · right
        rw [if_neg (hh.2.1.2.2.2.2.2.1 to z)]
        obtain ⟨j, hj, ej⟩ := List.getElem_of_mem z
        obtain ⟨l, hl⟩ := qM_path hh.2.1 j j to (Nat.le_refl _) (List.getElem?_eq_some_iff.mpr ⟨hj, ej⟩)
        exact ⟨rfl, l, ixL Qs, hl⟩
      · left
        rw [if_pos (hh.2.1.2.2.2.2.1 to hto z)]
        exact ⟨rfl, decide_eq_false z⟩
  have outer : ∀ (k n : Nat) (Qs : List Nat) (M : m2M), n + k = 14 → n ≤ Qs.length → hd Qs M → cl Qs n → κ 40 [.ref kM, .int (nI frm), .int (nI to), .int (nI n), .int (nI Qs.length), .null, .null] [] M := by
    intro k
    induction k with
    | zero =>
      intro n Qs M hn hle hh hcl
      have hlen : Qs.length ≤ 14 := by
        have := nodup_len hh.2.1.1 hh.2.1.2.1
        have := cnb_le (fun r => decide (r ∈ Qs)) 14
        omega
      have en : n = Qs.length := by omega
      subst en
      refine B_X12_findMore_40 hk ⟨fun _ => ⟨vp_in_nI hto (by decide), ?_⟩, fun w => absurd (nI_le (Nat.le_refl _) (by omega)) w⟩
      rw [nI_clamp (by omega)]
      exact fin Qs M hh hcl
    | succ k ih =>
      intro n Qs M hn hle hh hcl
      have hlen : Qs.length ≤ 14 := by
        have := nodup_len hh.2.1.1 hh.2.1.2.1
        have := cnb_le (fun r => decide (r ∈ Qs)) 14
        omega
      by_cases en : n = Qs.length
      · subst en
        refine B_X12_findMore_40 hk ⟨fun _ => ⟨vp_in_nI hto (by decide), ?_⟩, fun w => absurd (nI_le (Nat.le_refl _) (by omega)) w⟩
        rw [nI_clamp (by omega)]
        exact fin Qs M hh hcl
      · have hlt : n < Qs.length := by omega
        obtain ⟨u, hu⟩ : ∃ u, Qs[n]? = some u := ⟨Qs[n], List.getElem?_eq_getElem hlt⟩
        have hu14 := hh.2.1.2.1 u (List.mem_of_getElem? hu)
        refine B_X12_findMore_40 hk ⟨fun w => absurd w (nI_ge hlt (by omega)), fun _ => ⟨vp_in_nI (by omega) (by decide), ?_⟩⟩
        rw [nI_clamp (by omega), hh.2.2 n u hu, nI_1]
        have inner : ∀ (i' i : Nat) (Qs : List Nat) (M : m2M), i + i' = 14 → n < Qs.length → Qs[n]? = some u → hd Qs M → cl Qs n → (∀ s, s < i → 0 < c (14 * u + s) → s ∈ Qs) → κ 60 [.ref kM, .int (nI frm), .int (nI to), .int (nI (n + 1)), .int (nI Qs.length), .int (nI u), .int (nI i)] [] M := by
          intro i'
          induction i' with
          | zero =>
            intro i Qs M hi hlt hu hh hcl hci
            have : i = 14 := by omega
            subst this
            refine B_X12_findMore_60 hk ⟨fun _ => ?_, fun w => absurd (nI_le (Nat.le_refl 14) (by decide)) w⟩
            refine ih (n + 1) Qs M (by omega) (by omega) hh (fun j v hj hv s hs hf' => ?_)
            by_cases e : j = n
            · subst e
              rw [hu] at hv
              cases hv
              exact hci s hs hf'
            · exact hcl j v (by omega) hv s hs hf'
          | succ i' ihi =>
            intro i Qs M hi hlt hu hh hcl hci
            have hi14 : i < 14 := by omega
            have ext : ∀ (hz : 0 < c (14 * u + i) → i ∈ Qs) s, s < i + 1 → 0 < c (14 * u + s) → s ∈ Qs := by
              intro hz s hs hf'
              by_cases e : s = i
              · subst e; exact hz hf'
              · exact hci s (by omega) hf'
            have go : (0 < c (14 * u + i) → i ∈ Qs) → κ 60 [.ref kM, .int (nI frm), .int (nI to), .int (nI (n + 1)), .int (nI Qs.length), .int (nI u), .int (nI i + 1)] [] M := by
              intro hz
              rw [nI_1]
              exact ihi (i + 1) Qs M (by omega) hlt hu hh hcl (ext hz)
            refine B_X12_findMore_60 hk ⟨fun w => absurd w (nI_ge (b := 14) hi14 (by decide)), fun _ => ⟨vp_in_nI hi14 (by decide), ?_⟩⟩
            rw [nI_clamp (by omega), can_ix, nI_clamp (by omega), (hh.1 kM_can rfl).1, hc _ (by omega)]
            refine ⟨fun w => go (fun _ => ?_), fun w => ⟨vp_in_nI (by omega) (by decide), fun w2 => ?_, fun w2 => go (fun z => ?_)⟩⟩
            · apply Classical.byContradiction
              intro z
              exact w (hh.2.1.2.2.2.2.1 i hi14 z)
            · have hnm : i ∉ Qs := fun z => hh.2.1.2.2.2.2.2.1 i z w
              have hl14 := nodup_lt hh.2.1.1 hh.2.1.2.1 hi14 hnm
              have hpos : 0 < c (14 * u + i) := by
                apply Classical.byContradiction
                intro z
                have : c (14 * u + i) = 0 := by omega
                rw [this] at w2
                exact w2 rfl
              have qadd := qM_add hh.2.1 hu hpos hi14 hnm
              have hlen' : (Qs ++ [i]).length = Qs.length + 1 := by simp
              refine ⟨vp_in_nI hl14 (by decide), ?_⟩
              rw [nI_clamp (by omega), nI_1, nI_1, ← hlen']
              have evia : (m2_si (m2_si M kM_cameFrom i (nI u)) kM_queue Qs.length (nI i)).1 kM_cameFrom = upd (M.1 kM_cameFrom) i (nI u) := by
                rw [si_nc _ _ _ (by decide)]
                exact m2_sr_same _ _ _
              refine ihi (i + 1) (Qs ++ [i]) _ (by omega) (by rw [hlen']; omega) (by rw [List.getElem?_append_left hlt]; exact hu) ⟨fr_si rfl (fr_si rfl hh.1), by rw [evia]; exact qadd, fun j r hr => ?_⟩ (fun j v hj hv s hs hf' => ?_) (fun s hs hf' => ?_)
              · by_cases e : j < Qs.length
                · rw [List.getElem?_append_left e] at hr
                  rw [si_nj _ _ _ (by omega), si_nc _ _ _ (by decide)]
                  exact hh.2.2 j r hr
                · have hjl : j < Qs.length + 1 := by
                    have := (List.getElem?_eq_some_iff.mp hr).1
                    rw [hlen'] at this
                    exact this
                  have : j = Qs.length := by omega
                  subst this
                  have : i = r := by simpa using hr
                  rw [← this, si_at]
              · have hjl : j < Qs.length := by omega
                rw [List.getElem?_append_left hjl] at hv
                exact List.mem_append.mpr (Or.inl (hcl j v hj hv s hs hf'))
              · by_cases e : s = i
                · subst e
                  exact List.mem_append.mpr (Or.inr (by simp))
                · exact List.mem_append.mpr (Or.inl (hci s (by omega) hf'))
            · have : c (14 * u + i) = 0 := (nI_eq (b := 0) (by have := hb.le (k := 14 * u + i) (by omega); omega) (by decide)).mp w2
              omega
        exact inner 14 0 Qs M (by omega) hlt hu hh hcl (fun s hs => absurd hs (Nat.not_lt_zero s))
  refine dn (n := 14) (G := fun i => ∀ M, fr isB μ M → (∀ x, x < i → M.1 kM_cameFrom x = -1) → κ 2 [.ref kM, .int (nI frm), .int (nI to), .int (nI i), .null, .null, .null] [] M) (fun M hM hx => ?_) (fun i hi ih M hM hx => ?_) μ fr.rf (fun x hx => absurd hx (Nat.not_lt_zero x))
  · refine B_X12_findMore_2 hk ⟨fun _ => ⟨vp_in_nI hfrm (by decide), ?_⟩, fun w => absurd (nI_le (Nat.le_refl 14) (by decide)) w⟩
    have e0 : ((0 : Int32)).toNatClampNeg = 0 := by decide
    rw [nI_clamp (by omega), e0]
    have one : ∀ x, x ∈ [frm] → x = frm := fun x hx => by simpa using hx
    have nd : [frm].Nodup := List.nodup_cons.mpr ⟨by simp, List.nodup_nil⟩
    refine outer 14 0 [frm] _ rfl (Nat.zero_le _) ⟨fr_si rfl (fr_si rfl hM), ⟨nd, fun x hx => by rw [one x hx]; exact hfrm, rfl, fun j r hr hj => ?_, fun x hx1 hx2 => ?_, fun x hx => ?_, fun X hX _ x hx => by rw [one x hx]; exact hX⟩, fun j r hr => ?_⟩ (fun j _ hj => absurd hj (Nat.not_lt_zero j))
    · have := (List.getElem?_eq_some_iff.mp hr).1
      simp at this
      omega
    · rw [si_nc _ _ _ (by decide), si_nj _ _ _ (fun e => hx2 (by simp [e]))]
      exact hx x hx1
    · rw [one x hx, si_nc _ _ _ (by decide), si_at]
      exact nI_ne_m1 (by omega)
    · have := (List.getElem?_eq_some_iff.mp hr).1
      simp at this
      subst this
      have : frm = r := by simpa using hr
      rw [si_at, this]
  · refine B_X12_findMore_2 hk ⟨fun w => absurd w (nI_ge (b := 14) hi (by decide)), fun _ => ⟨vp_in_nI hi (by decide), ?_⟩⟩
    rw [nI_clamp (by omega), nI_1]
    refine ih _ (fr_si rfl hM) (fun x hx' => ?_)
    by_cases e : x = i
    · subst e; rw [si_at]
    · rw [si_nj _ _ _ e]; exact hx x (by omega)
