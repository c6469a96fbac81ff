/-! THE PROGRAM LOGIC OVER THE STATIC WORLD: states are (pc, locals, operand stack, memory); a rule an instruction. -/
def m2_sh (c : Nat) : Option m2S := m2_SH[c]?
theorem m2_sh_lt {c : Nat} {x : m2S} (h : m2_sh c = some x) : c < m2_NC := by
  have h1 := (List.getElem?_eq_some_iff.mp h).1
  rw [m2_NC_eq] at h1
  exact h1
def m2_tys (dA : Nat → ClassId) : List (ClassId × FieldType) := [(dA 0, .byte), (dA 1, .char), (dA 2, .int), (dA 3, .long), (dA 4, .boolean), (dA 5, .object "ClosesAfterSeventh$Kept"), (dA 6, .array .int)]
def m2_fv (ad : Nat → Nat) (x : Int32) (k : Nat) : Value := match k with
  | 0 => .int x
  | 1 => if x < 0 then .null else .ref (ad x.toNatClampNeg)
  | k + 2 => .ref (ad k)
def m2_ac (ad : Nat → Nat) (μ : m2M) (c t : Nat) (rs : List Nat) : (Nat → Int32) ⊕ (Nat → Int64) ⊕ (Nat → UInt32) ⊕ (Nat → UInt64) ⊕ (Nat → Option Nat) :=
  if t = 3 then .inr (.inl (μ.2 c)) else if 5 ≤ t then .inr (.inr (.inr (.inr (fun j => (rs[j]?).map ad)))) else .inl (μ.1 c)
def m2_fs (ad : Nat → Nat) (f : Nat → Int32) (ks : List Nat) : List Value := ks.mapIdx (fun j k => m2_fv ad (f j) k)
def m2_ce (dA : Nat → ClassId) (ad : Nat → Nat) (μ : m2M) (c : Nat) : va_E := match m2_sh c with
  | some (.inl (t, n, rs)) => .inl (dA t, n, m2_ac ad μ c t rs)
  | some (.inr (ci, ks)) => .inr (ci, m2_fs ad (μ.1 c) ks)
  | none => .inr (0, [])
def m2_ws (dA : Nat → ClassId) (ad : Nat → Nat) (μ : m2M) : va_W := (List.range m2_NC).map fun c => (ad c, m2_ce dA ad μ c)
theorem m2_ws_get {dA : Nat → ClassId} {ad : Nat → Nat} {μ : m2M} {c : Nat} (h : c < m2_NC) : (m2_ws dA ad μ)[c]? = some (ad c, m2_ce dA ad μ c) := by
  simp [m2_ws, h]
theorem m2_ws_none {dA : Nat → ClassId} {ad : Nat → Nat} {μ : m2M} {c : Nat} (h : ¬ c < m2_NC) : (m2_ws dA ad μ)[c]? = none := by
  rw [List.getElem?_eq_none_iff]
  simp only [m2_ws, List.length_map, List.length_range]
  omega
/-- a row of numbers is another one -/
def m2_sr (μ : m2M) (c : Nat) (f : Nat → Int32) : m2M := (fun c' => if c' = c then f else μ.1 c', μ.2)
def m2_sl (μ : m2M) (c : Nat) (f : Nat → Int64) : m2M := (μ.1, fun c' => if c' = c then f else μ.2 c')
def m2_si (μ : m2M) (c j : Nat) (x : Int32) : m2M := m2_sr μ c (upd (μ.1 c) j x)
theorem m2_sr_same (μ : m2M) (c : Nat) (f : Nat → Int32) : (m2_sr μ c f).1 c = f := if_pos rfl
theorem m2_sr_ne (μ : m2M) {c c' : Nat} (f : Nat → Int32) (h : c' ≠ c) : (m2_sr μ c f).1 c' = μ.1 c' := if_neg h
theorem m2_sr_l (μ : m2M) (c : Nat) (f : Nat → Int32) : (m2_sr μ c f).2 = μ.2 := rfl
theorem m2_sl_same (μ : m2M) (c : Nat) (f : Nat → Int64) : (m2_sl μ c f).2 c = f := if_pos rfl
theorem m2_sl_ne (μ : m2M) {c c' : Nat} (f : Nat → Int64) (h : c' ≠ c) : (m2_sl μ c f).2 c' = μ.2 c' := if_neg h
theorem m2_sl_i (μ : m2M) (c : Nat) (f : Nat → Int64) : (m2_sl μ c f).1 = μ.1 := rfl
theorem m2_ce_sr_ne {dA : Nat → ClassId} {ad : Nat → Nat} {μ : m2M} {c c' : Nat} {f : Nat → Int32} (h : c' ≠ c) : m2_ce dA ad (m2_sr μ c f) c' = m2_ce dA ad μ c' := by
  unfold m2_ce m2_ac
  rw [m2_sr_ne μ f h, m2_sr_l]
theorem m2_ce_sl_ne {dA : Nat → ClassId} {ad : Nat → Nat} {μ : m2M} {c c' : Nat} {f : Nat → Int64} (h : c' ≠ c) : m2_ce dA ad (m2_sl μ c f) c' = m2_ce dA ad μ c' := by
  unfold m2_ce m2_ac
  rw [m2_sl_ne μ f h, m2_sl_i]
theorem m2_ws_set {dA : Nat → ClassId} {ad : Nat → Nat} {μ μ' : m2M} {c : Nat} {e : va_E} (hc : c < m2_NC) (he : m2_ce dA ad μ' c = e) (ho : ∀ c', c' ≠ c → m2_ce dA ad μ' c' = m2_ce dA ad μ c') : (m2_ws dA ad μ).set c (ad c, e) = m2_ws dA ad μ' := by
  apply List.ext_getElem?
  intro i
  by_cases hi : i < m2_NC
  · rw [m2_ws_get hi]
    by_cases hic : i = c
    · subst hic
      rw [List.getElem?_set_self (by simp [m2_ws]; exact hc), he]
    · rw [List.getElem?_set_ne (fun q => hic q.symm), m2_ws_get hi, ho i hic]
  · rw [m2_ws_none hi, List.getElem?_set_ne (by omega), m2_ws_none hi]
theorem m2_ce_arr {dA : Nat → ClassId} {ad : Nat → Nat} {μ : m2M} {c t n : Nat} {rs : List Nat} (h : m2_sh c = some (.inl (t, n, rs))) (h3 : t ≠ 3) (h5 : t < 5) : m2_ce dA ad μ c = .inl (dA t, n, .inl (μ.1 c)) := by
  unfold m2_ce
  rw [h]
  simp only [m2_ac, if_neg h3, if_neg (by omega : ¬ 5 ≤ t)]
theorem m2_ce_arl {dA : Nat → ClassId} {ad : Nat → Nat} {μ : m2M} {c n : Nat} {rs : List Nat} (h : m2_sh c = some (.inl (3, n, rs))) : m2_ce dA ad μ c = .inl (dA 3, n, .inr (.inl (μ.2 c))) := by
  unfold m2_ce
  rw [h]
  simp only [m2_ac, if_true]
theorem m2_ce_arq {dA : Nat → ClassId} {ad : Nat → Nat} {μ : m2M} {c t n : Nat} {rs : List Nat} (h : m2_sh c = some (.inl (t, n, rs))) (h5 : 5 ≤ t) : m2_ce dA ad μ c = .inl (dA t, n, .inr (.inr (.inr (.inr (fun j => (rs[j]?).map ad))))) := by
  unfold m2_ce
  rw [h]
  simp only [m2_ac, if_neg (by omega : ¬ t = 3), if_pos h5]
theorem m2_ce_obj {dA : Nat → ClassId} {ad : Nat → Nat} {μ : m2M} {c ci : Nat} {ks : List Nat} (h : m2_sh c = some (.inr (ci, ks))) : m2_ce dA ad μ c = .inr (ci, m2_fs ad (μ.1 c) ks) := by
  unfold m2_ce
  rw [h]
theorem m2_fs_get {ad : Nat → Nat} {f : Nat → Int32} {ks : List Nat} {j k : Nat} (h : ks[j]? = some k) : (m2_fs ad f ks)[j]? = some (m2_fv ad (f j) k) := by
  unfold m2_fs
  rw [List.getElem?_mapIdx, h]
  rfl
theorem m2_fs_set {ad : Nat → Nat} {f : Nat → Int32} {ks : List Nat} {j k : Nat} {x : Int32} (h : ks[j]? = some k) : (m2_fs ad f ks).set j (m2_fv ad x k) = m2_fs ad (upd f j x) ks := by
  apply List.ext_getElem?
  intro i
  have hl : j < (m2_fs ad f ks).length := by
    have := (List.getElem?_eq_some_iff.mp h).1
    simpa [m2_fs] using this
  by_cases hij : i = j
  · subst hij
    rw [List.getElem?_set_self hl, m2_fs_get h]
    simp [upd]
  · rw [List.getElem?_set_ne (fun q => hij q.symm)]
    unfold m2_fs
    rw [List.getElem?_mapIdx, List.getElem?_mapIdx]
    simp [upd, hij]
theorem m2_fs_len {ad : Nat → Nat} {f : Nat → Int32} {ks : List Nat} {j k : Nat} (h : ks[j]? = some k) : j < (m2_fs ad f ks).length := by
  have := (List.getElem?_eq_some_iff.mp h).1
  simpa [m2_fs] using this
theorem m2_set_arr {dA : Nat → ClassId} {ad : Nat → Nat} {μ : m2M} {c t n : Nat} {rs : List Nat} {f : Nat → Int32} (h : m2_sh c = some (.inl (t, n, rs))) (h3 : t ≠ 3) (h5 : t < 5) : (m2_ws dA ad μ).set c (ad c, .inl (dA t, n, .inl f)) = m2_ws dA ad (m2_sr μ c f) :=
  m2_ws_set (m2_sh_lt h) (by rw [m2_ce_arr h h3 h5, m2_sr_same]) (fun _ q => m2_ce_sr_ne q)
theorem m2_set_arl {dA : Nat → ClassId} {ad : Nat → Nat} {μ : m2M} {c n : Nat} {rs : List Nat} {f : Nat → Int64} (h : m2_sh c = some (.inl (3, n, rs))) : (m2_ws dA ad μ).set c (ad c, .inl (dA 3, n, .inr (.inl f))) = m2_ws dA ad (m2_sl μ c f) :=
  m2_ws_set (m2_sh_lt h) (by rw [m2_ce_arl h, m2_sl_same]) (fun _ q => m2_ce_sl_ne q)
theorem m2_set_obj {dA : Nat → ClassId} {ad : Nat → Nat} {μ : m2M} {c ci j k : Nat} {ks : List Nat} {x : Int32} (h : m2_sh c = some (.inr (ci, ks))) (hj : ks[j]? = some k) : (m2_ws dA ad μ).set c (ad c, .inr (ci, (m2_fs ad (μ.1 c) ks).set j (m2_fv ad x k))) = m2_ws dA ad (m2_si μ c j x) :=
  m2_ws_set (m2_sh_lt h) (by rw [m2_ce_obj h, m2_fs_set hj]; unfold m2_si; rw [m2_sr_same]) (fun _ q => m2_ce_sr_ne q)
def m2_rv (ad : Nat → Nat) (v : Value) : Value := match v with
  | .ref k => .ref (ad k)
  | v => v
theorem m2_rv_cat (ad : Nat → Nat) (v : Value) : (m2_rv ad v).category = v.category := by cases v <;> rfl
/-- the locals: what stands in the list (null: nothing is said) -/
def m2_lv (ad : Nat → Nat) (nL : Nat) (ls : List Value) (la : Array Slot) : Prop := ls.length = nL ∧ la.size = nL ∧ lv_wf la ∧ ∀ (i : Nat) (v : Value), ls[i]? = some v → v ≠ .null → la[i]? = some (.val (m2_rv ad v))
def m2_pv (ad : Nat → Nat) (i : Nat) (o : Option Value) : Option (Nat × Value) := match o with
  | some .null => none
  | some v => some (i, m2_rv ad v)
  | none => none
def m2_pairs (ad : Nat → Nat) (ls : List Value) : List (Nat × Value) := (List.range ls.length).filterMap fun i => m2_pv ad i ls[i]?
theorem m2_pairs_mem {ad : Nat → Nat} {ls : List Value} {i : Nat} {v : Value} (h : ls[i]? = some v) (hn : v ≠ .null) : (i, m2_rv ad v) ∈ m2_pairs ad ls := by
  refine List.mem_filterMap.mpr ⟨i, List.mem_range.mpr (List.getElem?_eq_some_iff.mp h).1, ?_⟩
  rw [h]
  cases v <;> first | rfl | exact absurd rfl hn
theorem m2_pairs_of {ad : Nat → Nat} {ls : List Value} {q : Nat × Value} (h : q ∈ m2_pairs ad ls) : ∃ v, ls[q.1]? = some v ∧ v ≠ .null ∧ q.2 = m2_rv ad v := by
  obtain ⟨i, -, hi⟩ := List.mem_filterMap.mp h
  cases hv : ls[i]? with
  | none => rw [hv] at hi; cases hi
  | some v =>
    rw [hv] at hi
    cases v <;> first | (cases hi; done) | (cases hi; exact ⟨_, hv, by simp, rfl⟩)
theorem m2_lv.has {ad : Nat → Nat} {nL : Nat} {ls : List Value} {la : Array Slot} (h : m2_lv ad nL ls la) : lv_has la nL (m2_pairs ad ls) := by
  refine ⟨h.2.1, h.2.2.1, fun q hq => ?_⟩
  obtain ⟨v, h1, h2, h3⟩ := m2_pairs_of hq
  rw [h3]
  exact h.2.2.2 _ _ h1 h2
/-- a long ahead of place i is no more -/
def m2_kl (ls : List Value) (i : Nat) : List Value := match i with
  | 0 => ls
  | k + 1 => match ls[k]? with
    | some (.long _) => ls.set k .null
    | some (.double _) => ls.set k .null
    | _ => ls
def m2_st (ls : List Value) (i : Nat) (v : Value) : List Value := (m2_kl ls i).set i v
def m2_st2 (ls : List Value) (i : Nat) (v : Value) : List Value := ((m2_kl ls i).set i v).set (i + 1) .null
theorem m2_kl_len (ls : List Value) (i : Nat) : (m2_kl ls i).length = ls.length := by
  unfold m2_kl
  split
  · rfl
  · split <;> simp
theorem m2_kl_of {ls : List Value} {i j : Nat} {v : Value} (h : (m2_kl ls i)[j]? = some v) (hn : v ≠ .null) : ls[j]? = some v ∧ ¬ (j + 1 = i ∧ v.category = 2) := by
  unfold m2_kl at h
  split at h
  · exact ⟨h, fun q => by omega⟩
  · rename_i k
    have key : ∀ w : Value, ls[k]? = some w → (ls.set k .null)[j]? = some v → ls[j]? = some v ∧ ¬ (j + 1 = k + 1 ∧ v.category = 2) := by
      intro w hw h
      by_cases hjk : j = k
      · subst hjk
        rw [List.getElem?_set_self (List.getElem?_eq_some_iff.mp hw).1] at h
        cases h
        exact absurd rfl hn
      · rw [List.getElem?_set_ne (fun q => hjk q.symm)] at h
        exact ⟨h, fun q => hjk (by omega)⟩
    split at h
    · rename_i w hw; exact key _ hw h
    · rename_i w hw; exact key _ hw h
    · rename_i h1 h2
      refine ⟨h, fun q => ?_⟩
      have hjk : j = k := by omega
      subst hjk
      have hc := q.2
      cases v <;> first | (simp [Value.category] at hc; done) | exact h1 _ h | exact h2 _ h
theorem m2_lv.store {ad : Nat → Nat} {nL i : Nat} {ls : List Value} {la : Array Slot} {v : Value} (h : m2_lv ad nL ls la) {la' : Array Slot} (h' : lv_has la' nL ((i, m2_rv ad v) :: (m2_pairs ad ls).filter (fun q => !(q.1 == i) && !(q.1 + 1 == i && q.2.category == 2)))) : m2_lv ad nL (m2_st ls i v) la' := by
  refine ⟨by unfold m2_st; rw [List.length_set, m2_kl_len]; exact h.1, h'.1, h'.2.1, fun j w hj hw => ?_⟩
  unfold m2_st at hj
  by_cases hji : j = i
  · subst hji
    have hl := (List.getElem?_eq_some_iff.mp hj).1
    rw [List.getElem?_set_self (by simpa using hl)] at hj
    cases hj
    exact h'.2.2 (j, m2_rv ad v) List.mem_cons_self
  · rw [List.getElem?_set_ne (fun q => hji q.symm)] at hj
    obtain ⟨h1, h2⟩ := m2_kl_of hj hw
    refine h'.2.2 (j, m2_rv ad w) (List.mem_cons_of_mem _ (List.mem_filter.mpr ⟨m2_pairs_mem h1 hw, ?_⟩))
    simp only [Bool.and_eq_true, Bool.not_eq_true', beq_eq_false_iff_ne, ne_eq, Bool.and_eq_false_iff, m2_rv_cat]
    exact ⟨hji, by by_cases q : j + 1 = i; exact Or.inr (fun z => h2 ⟨q, z⟩); exact Or.inl q⟩
theorem m2_lv.store2 {ad : Nat → Nat} {nL i : Nat} {ls : List Value} {la : Array Slot} {v : Value} (h : m2_lv ad nL ls la) {la' : Array Slot} (h' : lv_has la' nL ((i, m2_rv ad v) :: (m2_pairs ad ls).filter (fun q => !(q.1 == i) && (!(q.1 == i + 1) && !(q.1 + 1 == i && q.2.category == 2))))) : m2_lv ad nL (m2_st2 ls i v) la' := by
  refine ⟨by unfold m2_st2; rw [List.length_set, List.length_set, m2_kl_len]; exact h.1, h'.1, h'.2.1, fun j w hj hw => ?_⟩
  unfold m2_st2 at hj
  have hj1 : ¬ j = i + 1 := by
    intro q
    subst q
    have hl := (List.getElem?_eq_some_iff.mp hj).1
    rw [List.getElem?_set_self (by simpa using hl)] at hj
    cases hj
    exact hw rfl
  rw [List.getElem?_set_ne (fun q => hj1 q.symm)] at hj
  by_cases hji : j = i
  · subst hji
    have hl := (List.getElem?_eq_some_iff.mp hj).1
    rw [List.getElem?_set_self (by simpa using hl)] at hj
    cases hj
    exact h'.2.2 (j, m2_rv ad v) List.mem_cons_self
  · rw [List.getElem?_set_ne (fun q => hji q.symm)] at hj
    obtain ⟨h1, h2⟩ := m2_kl_of hj hw
    refine h'.2.2 (j, m2_rv ad w) (List.mem_cons_of_mem _ (List.mem_filter.mpr ⟨m2_pairs_mem h1 hw, ?_⟩))
    simp only [Bool.and_eq_true, Bool.not_eq_true', beq_eq_false_iff_ne, ne_eq, Bool.and_eq_false_iff, m2_rv_cat]
    exact ⟨hji, hj1, by by_cases q : j + 1 = i; exact Or.inr (fun z => h2 ⟨q, z⟩); exact Or.inl q⟩
/-- the words that every method of the system takes along -/
def m2_WS : List Cond := lw_tbl.filter goodWord
theorem m2_WS_in {w : Cond} (h : w ∈ lw_tbl) (hg : goodWord w = true) : w ∈ m2_WS := List.mem_filter.mpr ⟨h, hg⟩
theorem m2_WS_good : GoodIn m2_WS m2_WS := fun w h => ⟨h, good_of_word (List.mem_filter.mp h).2⟩
def m2_NW : List Cond := lw_tbl.filter fun w => match w with
  | .methodLinkNest _ _ _ _ => true
  | _ => false
def m2_K (D : va_G) (dA : Nat → ClassId) (U : State) : Prop := va_K D vwCl (m2_tys dA) U ∧ ∀ w ∈ m2_NW, va_Nw w U
/-- which cells may change -/
def m2_A (ad : Nat → Nat) (sz : Nat) : Nat → Prop := fun q => (∃ c, c < m2_NC ∧ q = ad c) ∨ sz ≤ q
def m2_inj (ad : Nat → Nat) : Prop := ∀ i j : Nat, i < m2_NC → j < m2_NC → ad i = ad j → i = j
theorem m2_D {dA : Nat → ClassId} {ad : Nat → Nat} {μ : m2M} {sz : Nat} (h : m2_inj ad) : va_D (m2_A ad sz) (m2_ws dA ad μ) := by
  have key : ∀ (k : Nat) (q : Nat × va_E), (m2_ws dA ad μ)[k]? = some q → k < m2_NC ∧ q.1 = ad k := by
    intro k q hk
    by_cases hl : k < m2_NC
    · rw [m2_ws_get hl] at hk
      cases hk
      exact ⟨hl, rfl⟩
    · rw [m2_ws_none hl] at hk
      cases hk
  refine ⟨fun i j p q hi hj hpq => ?_, fun k q hk => ?_⟩
  · obtain ⟨a1, a2⟩ := key i p hi
    obtain ⟨b1, b2⟩ := key j q hj
    exact h i j a1 b1 (by rw [← a2, ← b2]; exact hpq)
  · obtain ⟨a1, a2⟩ := key k q hk
    exact Or.inl ⟨k, a1, a2⟩
def m2_rm (d : Nat) : Room := { frames := d, cells := 0, slots := 0, locals := 40 * d }
/-- what a walk of a body stands on -/
def m2_C (cc : ByteArray) (own : String) (nL d : Nat) (p : Program) (R : Room) (s : State) (m : MethodId) (args : Array Value) (meth : Method) (c : Code) (D : va_G) (dA : Nat → ClassId) (ad : Nat → Nat) (cells slots : Nat) : Prop :=
  p.tables.exec = Jvm.exec ∧ c.code = cc ∧ c.maxLocals = nL ∧ s.vm.findClass own = some m.cls ∧ (∀ w ∈ m2_WS, w.before args s = true) ∧ m2_K D dA s ∧ m2_inj ad ∧ meth.locks = false ∧ d ≤ R.frames ∧ 40 * d ≤ R.locals ∧ cells ≤ R.cells ∧ slots ≤ R.slots
def m2_J (nL : Nat) (p : Program) (l : Launch) (e : Env) (R : Room) (s : State) (m : MethodId) (args : Array Value) (below : List Frame) (meth : Method) (c : Code) (D : va_G) (dA : Nat → ClassId) (ad : Nat → Nat) (cells slots : Nat) (Z : State → Prop) : Nat → List Value → List Value → m2M → Prop := fun pc ls st μ =>
  ∀ (H : Heap) (locs : List Loc) (la : Array Slot), va_P D vwCl (m2_ws dA ad μ) H → va_S (m2_A ad s.heap.size) s.heap H locs → m2_lv ad nL ls la → W p l e R s m args below meth c H locs cells slots Z (F0 m pc la (st.map (m2_rv ad)))
/-- κ is a walk of the body cc of the class own, with nL locals and d levels of calls below it -/
def m2_B (κ : Nat → List Value → List Value → m2M → Prop) (cc : ByteArray) (own : String) (nL d : Nat) : Prop :=
  ∃ (p : Program) (l : Launch) (e : Env) (R : Room) (s : State) (m : MethodId) (args : Array Value) (below : List Frame) (meth : Method) (c : Code) (D : va_G) (dA : Nat → ClassId) (ad : Nat → Nat) (cells slots : Nat) (Z : State → Prop), m2_C cc own nL d p R s m args meth c D dA ad cells slots ∧ κ = m2_J nL p l e R s m args below meth c D dA ad cells slots Z
def m2_Qc (ret : Option FieldType) (D : va_G) (dA : Nat → ClassId) (ad : Nat → Nat) (A : Nat → Prop) (Q : Option Value → m2M → Prop) : Array Value → State → Outcome → State → Prop := match ret with
  | none => va_Qv (fun μ' : m2M => Q none μ') (fun μ' t => va_P D vwCl (m2_ws dA ad μ') t.heap) A
  | some .long => va_Ql (fun (r : Int64) (μ' : m2M) => Q (some (.long r)) μ') (fun μ' t => va_P D vwCl (m2_ws dA ad μ') t.heap) A
  | some _ => va_Qi (fun (r : Int32) (μ' : m2M) => Q (some (.int r)) μ') (fun μ' t => va_P D vwCl (m2_ws dA ad μ') t.heap) A
/-- .. and its end is the method's own, with Q of the answer and the memory -/
def m2_RL (κ : Nat → List Value → List Value → m2M → Prop) (cc : ByteArray) (own : String) (nL d : Nat) (ret : Option FieldType) (Q : Option Value → m2M → Prop) : Prop :=
  ∃ (p : Program) (l : Launch) (e : Env) (R : Room) (s : State) (m : MethodId) (args : Array Value) (below : List Frame) (meth : Method) (c : Code) (D : va_G) (dA : Nat → ClassId) (ad : Nat → Nat) (cells slots : Nat), m2_C cc own nL d p R s m args meth c D dA ad cells slots ∧ meth.sig.returnType = ret ∧
    κ = m2_J nL p l e R s m args below meth c D dA ad cells slots (MQ below (m2_Qc ret D dA ad (m2_A ad s.heap.size) Q) args s cells slots (m2_A ad s.heap.size))
theorem m2_RL.b {κ : Nat → List Value → List Value → m2M → Prop} {cc : ByteArray} {own : String} {nL d : Nat} {ret : Option FieldType} {Q : Option Value → m2M → Prop} (h : m2_RL κ cc own nL d ret Q) : m2_B κ cc own nL d := by
  obtain ⟨p, l, e, R, s, m, args, below, meth, c, D, dA, ad, cells, slots, hC, -, hk⟩ := h
  exact ⟨p, l, e, R, s, m, args, below, meth, c, D, dA, ad, cells, slots, _, hC, hk⟩
/-- method y: on these arguments and this memory it returns, and Q holds -/
def m2_MT (d : Nat) (y : MethodName) (cc : ByteArray) (nL : Nat) (ret : Option FieldType) (as : List Value) (μ : m2M) (Q : Option Value → m2M → Prop) : Prop :=
  ∀ (l : Launch) (D : va_G) (dA : Nat → ClassId) (ad : Nat → Nat) (sz : Nat), m2_inj ad → Met l y (.code y cc nL ret :: m2_WS) (m2_rm d) (va_Pc (as.map (m2_rv ad)) (fun U => U.heap.size = sz ∧ va_P D vwCl (m2_ws dA ad μ) U.heap ∧ m2_K D dA U)) (m2_Qc ret D dA ad (m2_A ad sz) Q) 0 0 (m2_A ad sz)
/-- the locals with which a method begins -/
def m2_in (as : List Value) : List Value := as.flatMap fun v => if v.category = 2 then [v, .null] else [v]
