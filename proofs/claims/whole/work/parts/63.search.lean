/-! Flow: search, narrowest, push, greatest -/
def fwR (μ : m2M) (m : Nat) (A B : Nat → Nat) (T : Nat → Bool) (L f : Nat → Nat) : Prop := μ.1 kF 7 = nI m ∧ m ≤ 21 ∧ (∀ d, d < m → μ.1 kF_a d = nI (A d) ∧ A d < 12 ∧ μ.1 kF_b d = nI (B d) ∧ B d < 12 ∧ A d ≠ B d ∧ μ.1 kF_oneWay d = (if T d = true then 0 else 1) ∧ μ.1 kF_lets d = nI (L d) ∧ L d ≤ 61 ∧ μ.1 kF_net d = nI (L d) - nI (f d)) ∧ fok m T L f
theorem fwS_le {T : Nat → Bool} {L : Nat → Nat} {d : Nat} (h : L d ≤ 61) : fwS T L d ≤ 122 := by
  unfold fwS
  split <;> omega
theorem i32_ss (x y : Int32) : x - (x - y) = y := by
  rw [Int32.sub_eq_add_neg, Int32.neg_sub, Int32.add_comm, Int32.sub_add_cancel]
theorem fwR.free {μ : m2M} {m : Nat} {A B : Nat → Nat} {T : Nat → Bool} {L f : Nat → Nat} (h : fwR μ m A B T L f) {d u : Nat} (hd : d < m) (hu : u < 12) : fX1_free (nI d) (nI u) μ = nI (fwF A B T L f d u) := by
  obtain ⟨h1, h2, h3, h4⟩ := h
  obtain ⟨a1, a2, a3, a4, a5, a6, a7, a8, a9⟩ := h3 d hd
  have hf := h4 d hd
  have hs := fwS_le (T := T) (L := L) (d := d) a8
  unfold fX1_free fwF
  rw [nI_clamp (by omega), a1, a3, a6, a7, a9]
  by_cases z : A d = u
  · rw [if_pos z, if_pos (by rw [z]), i32_ss]
  · rw [if_neg z, if_neg (fun w => z ((nI_eq (by omega) (by omega)).mp w))]
    by_cases z2 : B d = u
    · rw [if_pos z2, if_pos (by rw [z2])]
      unfold fwS at hf ⊢
      cases e : T d with
      | true =>
        rw [e] at hf
        simp only [if_true] at hf ⊢
        rw [Int32.sub_eq_add_neg, ← Int32.add_assoc, nI_add, ← Int32.sub_eq_add_neg, pk_sub hf]
      | false =>
        rw [e] at hf
        simp only [Bool.false_eq_true, if_false] at hf ⊢
        rw [if_neg (by decide), Int32.zero_add, pk_sub (by omega)]
        rfl
    · rw [if_neg z2, if_neg (fun w => z2 ((nI_eq (by omega) (by omega)).mp w))]
      rfl
theorem fwF_le {A B : Nat → Nat} {T : Nat → Bool} {L f : Nat → Nat} {m d u : Nat} (hf : fok m T L f) (hd : d < m) (hl : L d ≤ 61) : fwF A B T L f d u ≤ 122 := by
  have := hf d hd
  have := fwS_le (T := T) (L := L) (d := d) hl
  unfold fwF
  split
  · omega
  · split <;> omega
def isF (c : Nat) : Bool := (c == kF) || (c == kF_via) || (c == kF_queue)
def frF (μ μ' : m2M) : Prop := fr isF μ μ' ∧ ∀ j, j ≠ 10 → μ'.1 kF j = μ.1 kF j
theorem frF.rf {μ : m2M} : frF μ μ := ⟨fr.rf, fun _ _ => rfl⟩
theorem frF.tr {μ ν ρ : m2M} (h1 : frF μ ν) (h2 : frF ν ρ) : frF μ ρ := ⟨h1.1.tr h2.1, fun j hj => (h2.2 j hj).trans (h1.2 j hj)⟩
theorem frF.v {μ μ' : m2M} {c j : Nat} {x : Int32} (h : frF μ μ') (hc : c = kF_via ∨ c = kF_queue) : frF μ (m2_si μ' c j x) := by
  rcases hc with rfl | rfl
  · exact ⟨fr_si rfl h.1, h.2⟩
  · exact ⟨fr_si rfl h.1, h.2⟩
theorem frF.k {μ μ' : m2M} {x : Int32} (h : frF μ μ') : frF μ (m2_si μ' kF 10 x) := ⟨fr_si rfl h.1, fun j hj => by rw [si_nj _ _ _ hj]; exact h.2 j hj⟩
theorem frF.R {μ μ' : m2M} {m : Nat} {A B : Nat → Nat} {T : Nat → Bool} {L f : Nat → Nat} (h : frF μ μ') (q : fwR μ m A B T L f) : fwR μ' m A B T L f := by
  obtain ⟨h1, h2, h3, h4⟩ := q
  refine ⟨(h.2 7 (by decide)).trans h1, h2, fun d hd => ?_, h4⟩
  rw [(h.1 kF_a rfl).1, (h.1 kF_b rfl).1, (h.1 kF_oneWay rfl).1, (h.1 kF_lets rfl).1, (h.1 kF_net rfl).1]
  exact h3 d hd
def ixL : List Nat → Nat → Nat
  | [], _ => 0
  | x :: l, r => if x = r then 0 else ixL l r + 1
theorem ixL_at : ∀ {l : List Nat} {j r : Nat}, l.Nodup → l[j]? = some r → ixL l r = j
  | [], j, r, _, h => by simp at h
  | x :: l, 0, r, _, h => by
    have : x = r := by simpa using h
    exact if_pos this
  | x :: l, j + 1, r, hn, h => by
    have h : l[j]? = some r := by simpa using h
    obtain ⟨h1, h2⟩ := List.nodup_cons.mp hn
    have : x ≠ r := fun e => h1 (e ▸ List.mem_of_getElem? h)
    unfold ixL
    rw [if_neg this, ixL_at h2 h]
section QI
variable (m : Nat) (A B : Nat → Nat) (T : Nat → Bool) (L f : Nat → Nat) (frm : Nat)
def qI (via : Nat → Int32) (Qs : List Nat) : Prop := Qs.Nodup ∧ (∀ x, x ∈ Qs → x < 12) ∧ Qs[0]? = some frm ∧ (∀ j r, Qs[j]? = some r → 0 < j → ∃ d u j', Qs[j']? = some u ∧ j' < j ∧ d < m ∧ via r = nI d ∧ 0 < fwF A B T L f d u ∧ fwO A B d u = r ∧ (A d = u ∨ B d = u)) ∧ ∀ X : Nat → Bool, X frm = true → rclo m A B T L f X → ∀ x, x ∈ Qs → X x = true
def vpt (via : Nat → Int32) : List (Nat × Nat) → Nat → Prop
  | [], _ => True
  | q :: l, r => via r = nI q.1 ∧ vpt via l q.2
end QI
section QI2
variable {m : Nat} {A B : Nat → Nat} {T : Nat → Bool} {L f : Nat → Nat} {frm : Nat}
theorem qI_path {via : Nat → Int32} {Qs : List Nat} (h : qI m A B T L f frm via Qs) : ∀ (n j r : Nat), j ≤ n → Qs[j]? = some r → ∃ l, bpt m A B T L f (ixL Qs) frm l r ∧ vpt via l r := by
  intro n
  induction n with
  | zero =>
    intro j r hj hr
    have : j = 0 := by omega
    subst this
    rw [h.2.2.1] at hr
    cases hr
    exact ⟨[], rfl, trivial⟩
  | succ n ih =>
    intro j r hj hr
    by_cases z : j = 0
    · subst z
      rw [h.2.2.1] at hr
      cases hr
      exact ⟨[], rfl, trivial⟩
    · obtain ⟨d, u, j', q1, q2, q3, q4, q5, q6, q7⟩ := h.2.2.2.1 j r hr (by omega)
      obtain ⟨l, hl1, hl2⟩ := ih j' u (by omega) q1
      refine ⟨(d, u) :: l, ⟨fun e => ?_, q3, q5, q6, q7, h.2.1 u (List.mem_of_getElem? q1), ?_, hl1⟩, q4, hl2⟩
      · have := ixL_at h.1 hr
        have := ixL_at h.1 h.2.2.1
        rw [e] at *
        omega
      · rw [ixL_at h.1 hr, ixL_at h.1 q1]
        exact q2
theorem qI_add {via : Nat → Int32} {Qs : List Nat} (h : qI m A B T L f frm via Qs) {d u x j' : Nat} (hu : Qs[j']? = some u) (hd : d < m) (hf : 0 < fwF A B T L f d u) (ho : fwO A B d u = x) (hab : A d = u ∨ B d = u) (hx : x < 12) (hn : x ∉ Qs) : qI m A B T L f frm (upd via x (nI d)) (Qs ++ [x]) := by
  obtain ⟨h1, h2, h3, h4, h5⟩ := h
  have hj' : j' < Qs.length := (List.getElem?_eq_some_iff.mp hu).1
  have hlen : 0 < Qs.length := by omega
  refine ⟨?_, fun y hy => ?_, ?_, fun j r hr hj => ?_, fun X hX hc y hy => ?_⟩
  · rw [List.nodup_append]
    refine ⟨h1, by simp, fun a ha b hb => ?_⟩
    have : b = x := by simpa using hb
    subst this
    exact fun e => hn (e ▸ ha)
  · rcases List.mem_append.mp hy with z | z
    · exact h2 y z
    · have : y = x := by simpa using z
      rw [this]; exact hx
  · rw [List.getElem?_append_left hlen]; exact h3
  · by_cases z : j < Qs.length
    · rw [List.getElem?_append_left z] at hr
      obtain ⟨d1, u1, j1, q1, q2, q3, q4, q5⟩ := h4 j r hr hj
      refine ⟨d1, u1, j1, ?_, q2, q3, ?_, q5⟩
      · rw [List.getElem?_append_left (by omega)]; exact q1
      · rw [upd_ne (fun e : r = x => hn (by rw [← e]; exact List.mem_of_getElem? hr))]; exact q4
    · have hjl : j < Qs.length + 1 := by
        have := (List.getElem?_eq_some_iff.mp hr).1
        simpa using this
      have : j = Qs.length := by omega
      subst this
      have : x = r := by simpa using hr
      subst this
      refine ⟨d, u, j', ?_, hj', hd, upd_at _ _ _, hf, ho, hab⟩
      rw [List.getElem?_append_left hj']; exact hu
  · have old := h5 X hX hc
    rcases List.mem_append.mp hy with z | z
    · exact old y z
    · have : y = x := by simpa using z
      subst this
      have Xu := old u (List.mem_of_getElem? hu)
      obtain ⟨c1, c2⟩ := hc d hd
      unfold fwF at hf
      unfold fwO at ho
      by_cases w : A d = u
      · rw [if_pos w] at hf ho
        rw [← ho]
        exact c1 (by rw [w]; exact Xu) hf
      · have wb := hab.resolve_left w
        rw [if_neg w] at hf ho
        rw [if_pos wb] at hf
        rw [← ho]
        exact c2 (by rw [wb]; exact Xu) hf
end QI2
theorem hasB12 {g : Nat → Bool} {a : Nat} (ha : a < 12) : fX11_hasBit (bts g 12) (nI a) = 1 ↔ g a = true := hasB ha
def srR (m : Nat) (A B : Nat → Nat) (T : Nat → Bool) (L f : Nat → Nat) (frm : Nat) (g : Nat → Bool) (r : Option Value) (μ' : m2M) : Prop :=
  (r = some (.int (-1)) ∧ ∃ R : Nat → Bool, μ'.1 kF 10 = bts R 12 ∧ R frm = true ∧ rclo m A B T L f R ∧ (∀ x, R x = true → x < 12 ∧ g x = false) ∧ ∀ X : Nat → Bool, X frm = true → rclo m A B T L f X → ∀ x, R x = true → X x = true) ∨
  (∃ (to : Nat) (l : List (Nat × Nat)) (ix : Nat → Nat), r = some (.int (nI to)) ∧ to < 12 ∧ g to = true ∧ bpt m A B T L f ix frm l to ∧ ix to ≤ 11 ∧ vpt (μ'.1 kF_via) l to)
set_option maxHeartbeats 2000000 in
theorem S_search {D m frm : Nat} {A B : Nat → Nat} {T : Nat → Bool} {L f : Nat → Nat} {g : Nat → Bool} (hD : 1 ≤ D) (μ : m2M) (h : fwR μ m A B T L f) (hfrm : frm < 12) : m2_MT D yX1_search cX1_search 8 (some .int) [.ref kF, .int (nI frm), .int (bts g 12)] μ (fun r μ' => frF μ μ' ∧ srR m A B T L f frm g r μ') := by
  obtain ⟨D, rfl⟩ : ∃ E, D = E + 1 := ⟨D - 1, by omega⟩
  have hm := h.2.1
  refine m2_MT.intro (ls := [.ref kF, .int (nI frm), .int (bts g 12), .null, .null, .null, .null, .null]) (by decide +kernel) rfl (ble rfl) (fun κ hk => ?_)
  refine B_X1_search_0 hk (Nat.zero_le _) ⟨fun w => ?_, fun w => ?_⟩
  · refine ⟨frF.rf.k, Or.inr ⟨frm, [], fun _ => 0, rfl, hfrm, (hasB12 hfrm).mp w, rfl, Nat.zero_le _, trivial⟩⟩
  have hgf : g frm = false := by
    cases e : g frm with
    | false => rfl
    | true => exact absurd ((hasB12 hfrm).mpr e) w
  -- what holds at the loop's head
  let hd : List Nat → m2M → Prop := fun Qs M => frF μ M ∧ qI m A B T L f frm (M.1 kF_via) Qs ∧ M.1 kF 10 = bts (fun r => decide (r ∈ Qs)) 12 ∧ (∀ j r, Qs[j]? = some r → M.1 kF_queue j = nI r) ∧ ∀ x, x ∈ Qs → g x = false
  let cl : List Nat → Nat → Prop := fun Qs n => ∀ j u, j < n → Qs[j]? = some u → ∀ d, d < m → 0 < fwF A B T L f d u → fwO A B d u ∈ Qs
  have outer : ∀ (k n : Nat) (Qs : List Nat) (M : m2M), n + k = 12 → n ≤ Qs.length → hd Qs M → cl Qs n → κ 29 [.ref kF, .int (nI frm), .int (bts g 12), .int (nI Qs.length), .int (nI n), .null, .null, .null] [] M := by
    intro k
    induction k with
    | zero =>
      intro n Qs M hn hle hh hc
      have hlen : Qs.length ≤ 12 := by
        have := nodup_len hh.2.1.1 hh.2.1.2.1
        have := cnb_le (fun r => decide (r ∈ Qs)) 12
        omega
      have en : n = Qs.length := by omega
      subst en
      refine B_X1_search_29 hk ⟨fun _ => B_X1_search_186 hk ?_, fun w => absurd (nI_le (Nat.le_refl _) (by omega)) w⟩
      refine ⟨hh.1, Or.inl ⟨rfl, fun r => decide (r ∈ Qs), hh.2.2.1, ?_, ?_, fun x hx => ?_, fun X hX hXc x hx => ?_⟩⟩
      · exact decide_eq_true (List.mem_of_getElem? hh.2.1.2.2.1)
      · intro d hd'
        refine ⟨fun z1 z2 => ?_, fun z1 z2 => ?_⟩
        · have mem := of_decide_eq_true z1
          obtain ⟨j, hj, ej⟩ := List.getElem_of_mem mem
          have := hc j (A d) (by omega) (List.getElem?_eq_some_iff.mpr ⟨hj, ej⟩) d hd' (by unfold fwF; rw [if_pos rfl]; exact z2)
          unfold fwO at this
          rw [if_pos rfl] at this
          exact decide_eq_true this
        · have mem := of_decide_eq_true z1
          have hab := (h.2.2.1 d hd').2.2.2.2.1
          obtain ⟨j, hj, ej⟩ := List.getElem_of_mem mem
          have := hc j (B d) (by omega) (List.getElem?_eq_some_iff.mpr ⟨hj, ej⟩) d hd' (by unfold fwF; rw [if_neg hab, if_pos rfl]; exact z2)
          unfold fwO at this
          rw [if_neg hab] at this
          exact decide_eq_true this
      · have mem := of_decide_eq_true hx
        exact ⟨hh.2.1.2.1 x mem, hh.2.2.2.2 x mem⟩
      · exact hh.2.1.2.2.2.2 X hX hXc x (of_decide_eq_true hx)
    | succ k ih =>
      intro n Qs M hn hle hh hc
      by_cases en : n = Qs.length
      · subst en
        refine B_X1_search_29 hk ⟨fun _ => B_X1_search_186 hk ?_, fun w => absurd (nI_le (Nat.le_refl _) (by omega)) w⟩
        refine ⟨hh.1, Or.inl ⟨rfl, fun r => decide (r ∈ Qs), hh.2.2.1, ?_, ?_, fun x hx => ?_, fun X hX hXc x hx => ?_⟩⟩
        · exact decide_eq_true (List.mem_of_getElem? hh.2.1.2.2.1)
        · intro d hd'
          refine ⟨fun z1 z2 => ?_, fun z1 z2 => ?_⟩
          · have mem := of_decide_eq_true z1
            obtain ⟨j, hj, ej⟩ := List.getElem_of_mem mem
            have := hc j (A d) (by omega) (List.getElem?_eq_some_iff.mpr ⟨hj, ej⟩) d hd' (by unfold fwF; rw [if_pos rfl]; exact z2)
            unfold fwO at this
            rw [if_pos rfl] at this
            exact decide_eq_true this
          · have mem := of_decide_eq_true z1
            have hab := (h.2.2.1 d hd').2.2.2.2.1
            obtain ⟨j, hj, ej⟩ := List.getElem_of_mem mem
            have := hc j (B d) (by omega) (List.getElem?_eq_some_iff.mpr ⟨hj, ej⟩) d hd' (by unfold fwF; rw [if_neg hab, if_pos rfl]; exact z2)
            unfold fwO at this
            rw [if_neg hab] at this
            exact decide_eq_true this
        · have mem := of_decide_eq_true hx
          exact ⟨hh.2.1.2.1 x mem, hh.2.2.2.2 x mem⟩
        · exact hh.2.1.2.2.2.2 X hX hXc x (of_decide_eq_true hx)
      · have hlt : n < Qs.length := by omega
        have hlen : Qs.length ≤ 12 := by
          have := nodup_len hh.2.1.1 hh.2.1.2.1
          have := cnb_le (fun r => decide (r ∈ Qs)) 12
          omega
        obtain ⟨u, hu⟩ : ∃ u, Qs[n]? = some u := ⟨Qs[n], List.getElem?_eq_getElem hlt⟩
        have hu12 := hh.2.1.2.1 u (List.mem_of_getElem? hu)
        refine B_X1_search_29 hk ⟨fun w => absurd w (nI_ge hlt (by omega)), fun _ => ⟨fun w => absurd w (nI_ge (b := 12) (by omega) (by decide)), fun _ => ⟨vp_in_nI (by omega) (by decide), ?_⟩⟩⟩
        rw [nI_clamp (by omega), hh.2.2.2.1 n u hu]
        -- the DOORS of this ROOM
        have inner : ∀ (i' i : Nat) (Qs : List Nat) (M : m2M), i + i' = m → n < Qs.length → Qs[n]? = some u → hd Qs M → cl Qs n → (∀ d, d < i → 0 < fwF A B T L f d u → fwO A B d u ∈ Qs) → κ 54 [.ref kF, .int (nI frm), .int (bts g 12), .int (nI Qs.length), .int (nI n), .int (nI u), .int (nI i), .null] [] M := by
          intro i'
          induction i' with
          | zero =>
            intro i Qs M hi hlt hu hh hc hci
            have : i = m := by omega
            subst this
            have hR := hh.1.R h
            refine B_X1_search_54 hk (Nat.zero_le _) ⟨fun _ => ?_, fun w => absurd (by rw [hR.1]; exact nI_le (Nat.le_refl _) (by omega)) w⟩
            rw [nI_1]
            refine ih (n + 1) Qs M (by omega) (by omega) hh (fun j v hj hv d hd' hf' => ?_)
            by_cases e : j = n
            · subst e
              rw [hu] at hv
              cases hv
              exact hci d hd' hf'
            · exact hc j v (by omega) hv d hd' hf'
          | succ i' ihi =>
            intro i Qs M hi hlt hu hh hc hci
            have hR := hh.1.R h
            have him : i < m := by omega
            obtain ⟨a1, a2, a3, a4, a5, _⟩ := hR.2.2.1 i him
            have hfr := hR.free him hu12
            have hle := fwF_le (A := A) (B := B) (u := u) hR.2.2.2 him (hR.2.2.1 i him).2.2.2.2.2.2.2.1
            have go : (∀ d, d < i + 1 → 0 < fwF A B T L f d u → fwO A B d u ∈ Qs) → κ 174 [.ref kF, .int (nI frm), .int (bts g 12), .int (nI Qs.length), .int (nI n), .int (nI u), .int (nI i), .null] [] M := by
              intro hci'
              refine B_X1_search_174 hk ?_
              rw [nI_1]
              exact ihi (i + 1) Qs M (by omega) hlt hu hh hc hci'
            have ext : ∀ (hz : 0 < fwF A B T L f i u → fwO A B i u ∈ Qs) d, d < i + 1 → 0 < fwF A B T L f d u → fwO A B d u ∈ Qs := by
              intro hz d hd' hf'
              by_cases e : d = i
              · subst e; exact hz hf'
              · exact hci d (by omega) hf'
            refine B_X1_search_54 hk (Nat.zero_le _) ⟨fun w => absurd (by rw [hR.1] at w; exact w) (nI_ge him (by omega)), fun _ => ⟨vp_in_nI (by omega) (by decide), ?_⟩⟩
            rw [hfr, nI_clamp (by omega), a1, a3, hh.2.2.1]
            refine pk_lt 0 (fwF A B T L f i u) (fun z => ?_) (fun z => go (ext (fun w => absurd w (by omega)))) rfl rfl (by decide) (by omega)
            -- it is free: the ROOM beyond it
            have hab : A i = u ∨ B i = u := by
              unfold fwF at z
              by_cases w : A i = u
              · exact Or.inl w
              · rw [if_neg w] at z
                by_cases w2 : B i = u
                · exact Or.inr w2
                · rw [if_neg w2] at z; omega
            have beyond : ∀ x : Nat, x < 12 → fwO A B i u = x → (fX11_hasBit (bts (fun r => decide (r ∈ Qs)) 12) (nI x) = 1 → κ 174 [.ref kF, .int (nI frm), .int (bts g 12), .int (nI Qs.length), .int (nI n), .int (nI u), .int (nI i), .null] [] M) ∧ (¬ fX11_hasBit (bts (fun r => decide (r ∈ Qs)) 12) (nI x) = 1 → (nI Qs.length < 12 → (vp_in (nI x) 12) ∧ ((fX11_hasBit (bts g 12) (nI x) = 1 → (frF μ (m2_si (m2_si M kF 10 (bts (fun r => decide (r ∈ Qs)) 12 ||| ((1 : Int32) <<< (nI x &&& 31)))) kF_via (nI x).toNatClampNeg (nI i)) ∧ srR m A B T L f frm g (some (.int (nI x))) (m2_si (m2_si M kF 10 (bts (fun r => decide (r ∈ Qs)) 12 ||| ((1 : Int32) <<< (nI x &&& 31)))) kF_via (nI x).toNatClampNeg (nI i)))) ∧ (¬ fX11_hasBit (bts g 12) (nI x) = 1 → (vp_in (nI Qs.length) 12) ∧ (κ 174 [.ref kF, .int (nI frm), .int (bts g 12), .int (nI Qs.length + 1), .int (nI n), .int (nI u), .int (nI i), .null] [] (m2_si (m2_si (m2_si M kF 10 (bts (fun r => decide (r ∈ Qs)) 12 ||| ((1 : Int32) <<< (nI x &&& 31)))) kF_via (nI x).toNatClampNeg (nI i)) kF_queue (nI Qs.length).toNatClampNeg (nI x)))))) ∧ (¬ nI Qs.length < 12 → κ 174 [.ref kF, .int (nI frm), .int (bts g 12), .int (nI Qs.length), .int (nI n), .int (nI u), .int (nI i), .null] [] M)) := by
              intro x hx ho
              refine ⟨fun w => go (ext (fun _ => by rw [ho]; exact of_decide_eq_true ((hasB12 hx).mp w))), fun w => ?_⟩
              have hnm : x ∉ Qs := fun e => w ((hasB12 hx).mpr (decide_eq_true e))
              have hl12 := nodup_lt hh.2.1.1 hh.2.1.2.1 hx hnm
              have qadd := qI_add hh.2.1 hu him z ho hab hx hnm
              refine ⟨fun _ => ⟨vp_in_nI hx (by decide), fun w2 => ?_, fun w2 => ⟨vp_in_nI hl12 (by decide), ?_⟩⟩, fun w2 => absurd (nI_lt (b := 12) hl12 (by decide)) w2⟩
              · rw [nI_clamp (by omega)]
                refine ⟨hh.1.k.v (Or.inl rfl), Or.inr ?_⟩
                have evia : (m2_si (m2_si M kF 10 (bts (fun r => decide (r ∈ Qs)) 12 ||| ((1 : Int32) <<< (nI x &&& 31)))) kF_via x (nI i)).1 kF_via = upd (M.1 kF_via) x (nI i) := m2_sr_same _ _ _
                have hxat : (Qs ++ [x])[Qs.length]? = some x := by simp
                obtain ⟨l, hl1, hl2⟩ := qI_path qadd Qs.length Qs.length x (Nat.le_refl _) hxat
                refine ⟨x, l, ixL (Qs ++ [x]), rfl, hx, (hasB12 hx).mp w2, hl1, ?_, ?_⟩
                · rw [ixL_at qadd.1 hxat]; omega
                · rw [evia]; exact hl2
              · rw [nI_clamp (by omega), nI_clamp (by omega), nI_1]
                have hgx : g x = false := by
                  cases e : g x with
                  | false => rfl
                  | true => exact absurd ((hasB12 hx).mpr e) w2
                have hlen' : (Qs ++ [x]).length = Qs.length + 1 := by simp
                refine B_X1_search_174 hk ?_
                rw [nI_1, ← hlen']
                have evia : (m2_si (m2_si (m2_si M kF 10 (bts (fun r => decide (r ∈ Qs)) 12 ||| ((1 : Int32) <<< (nI x &&& 31)))) kF_via x (nI i)) kF_queue Qs.length (nI x)).1 kF_via = upd (M.1 kF_via) x (nI i) := by
                  rw [si_nc _ _ _ (by decide)]
                  exact m2_sr_same _ _ _
                refine ihi (i + 1) (Qs ++ [x]) _ (by omega) (by rw [hlen']; omega) (by rw [List.getElem?_append_left hlt]; exact hu) ⟨(hh.1.k.v (Or.inl rfl)).v (Or.inr rfl), by rw [evia]; exact qadd, ?_, fun j r hr => ?_, fun y hy => ?_⟩ (fun j v hj hv d hd' hf' => ?_) (fun d hd' hf' => ?_)
                · rw [si_nc _ _ _ (by decide), si_nc _ _ _ (by decide), si_at, bts_or (by decide) hx]
                  refine bts_congr (fun r hr => ?_)
                  by_cases e1 : r ∈ Qs
                  · simp [e1]
                  · by_cases e2 : r = x
                    · simp [e1, e2]
                    · simp [e1, e2]
                · by_cases e : j < Qs.length
                  · rw [List.getElem?_append_left e] at hr
                    rw [si_nj _ _ _ (by omega), si_nc _ _ _ (by decide), si_nc _ _ _ (by decide)]
                    exact hh.2.2.2.1 j r hr
                  · have hjl : j < Qs.length + 1 := by
                      have := (List.getElem?_eq_some_iff.mp hr).1
                      rw [hlen'] at this
                      exact this
                    have : j = Qs.length := by omega
                    subst this
                    have : x = r := by simpa using hr
                    rw [← this, si_at]
                · rcases List.mem_append.mp hy with e | e
                  · exact hh.2.2.2.2 y e
                  · have : y = x := by simpa using e
                    rw [this]; exact hgx
                · have hjl : j < Qs.length := by omega
                  rw [List.getElem?_append_left hjl] at hv
                  exact List.mem_append.mpr (Or.inl (hc j v hj hv d hd' hf'))
                · by_cases e : d = i
                  · subst e
                    rw [ho]
                    exact List.mem_append.mpr (Or.inr (by simp))
                  · exact List.mem_append.mpr (Or.inl (hci d (by omega) hf'))
            refine ⟨fun w => ?_, fun w => ?_⟩
            · have hne : A i ≠ u := fun e => w (by rw [e])
              exact beyond (A i) a2 (if_neg hne)
            · have he : A i = u := (nI_eq (by omega) (by omega)).mp w
              exact beyond (B i) a4 (if_pos he)
        exact inner m 0 Qs M (by omega) hlt hu hh hc (fun d hd' => absurd hd' (Nat.not_lt_zero d))
  have e0 : ((0 : Int32)).toNatClampNeg = 0 := by decide
  rw [e0]
  have one : ∀ x, x ∈ [frm] → x = frm := fun x hx => by simpa using hx
  have nd : [frm].Nodup := List.nodup_cons.mpr ⟨by simp, List.nodup_nil⟩
  refine outer 12 0 [frm] _ rfl (Nat.zero_le _) ⟨frF.rf.k.v (Or.inr rfl), ⟨nd, fun x hx => by rw [one x hx]; exact hfrm, rfl, fun j r hr hj => ?_, fun X hX _ x hx => by rw [one x hx]; exact hX⟩, ?_, fun j r hr => ?_, fun x hx => by rw [one x hx]; exact hgf⟩ (fun j _ hj => absurd hj (Nat.not_lt_zero j))
  · have := (List.getElem?_eq_some_iff.mp hr).1
    simp at this
    omega
  · rw [si_nc _ _ _ (by decide), si_at, bts_one (n := 12) (by decide) hfrm]
    refine bts_congr (fun r hr => ?_)
    simp
  · have := (List.getElem?_eq_some_iff.mp hr).1
    simp at this
    subst this
    have : frm = r := by simpa using hr
    rw [si_at, this]
