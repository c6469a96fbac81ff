/-! THE MAKING OF THE WORLD: cells by the order of their making, each with its contents; a rule an instruction -/
/-- a cell: (0, its class, its fields) or (1 + kind of its elements, its length, its references); a place: (0, x) the number x, (1, _) null, (k + 2, _) cell k -/
abbrev m3C : Type := Nat × Nat × List (Nat × Int32)
def m3_v (ad : Nat → Nat) (q : Nat × Int32) : Value := match q.1 with
  | 0 => .int q.2
  | 1 => .null
  | k + 2 => .ref (ad k)
def m3_o (ad : Nat → Nat) (q : Nat × Int32) : Option Nat := match q.1 with
  | 0 => none
  | 1 => none
  | k + 2 => some (ad k)
def m3_a (ad : Nat → Nat) (t : Nat) (rs : List (Nat × Int32)) : (Nat → Int32) ⊕ (Nat → Int64) ⊕ (Nat → UInt32) ⊕ (Nat → UInt64) ⊕ (Nat → Option Nat) :=
  if t = 3 then .inr (.inl (fun _ => 0)) else if 5 ≤ t then .inr (.inr (.inr (.inr (fun j => (rs[j]?).bind (m3_o ad))))) else .inl (fun _ => 0)
def m3_e (dA : Nat → ClassId) (ad : Nat → Nat) (q : m3C) : va_E := match q.1 with
  | 0 => .inr (q.2.1, q.2.2.map (m3_v ad))
  | t + 1 => .inl (dA t, q.2.1, m3_a ad t q.2.2)
def m3_ws (dA : Nat → ClassId) (ad : Nat → Nat) (wl : List m3C) : va_W := wl.mapIdx fun k q => (ad k, m3_e dA ad q)
def m3_n (q : m3C) : Nat := match q.1 with
  | 0 => q.2.2.length
  | _ + 1 => q.2.1
def m3_sl (wl : List m3C) : Nat := (wl.map m3_n).sum
def m3_ad (bs : Nat) (ad : Nat → Nat) : Prop := ∀ k : Nat, k < 1000 → ad k = bs + k
theorem m3_ws_get {dA : Nat → ClassId} {ad : Nat → Nat} {wl : List m3C} {k : Nat} {q : m3C} (h : wl[k]? = some q) : (m3_ws dA ad wl)[k]? = some (ad k, m3_e dA ad q) := by
  unfold m3_ws
  rw [List.getElem?_mapIdx, h]
  rfl
theorem m3_ws_of {dA : Nat → ClassId} {ad : Nat → Nat} {wl : List m3C} {k : Nat} {x : Nat × va_E} (h : (m3_ws dA ad wl)[k]? = some x) : ∃ q : m3C, wl[k]? = some q ∧ x = (ad k, m3_e dA ad q) := by
  unfold m3_ws at h
  rw [List.getElem?_mapIdx] at h
  cases hq : wl[k]? with
  | none => rw [hq] at h; cases h
  | some q => rw [hq] at h; cases h; exact ⟨q, rfl, rfl⟩
theorem m3_lt {wl : List m3C} {k : Nat} {q : m3C} (h : wl[k]? = some q) : k < wl.length := (List.getElem?_eq_some_iff.mp h).1
/-- the addresses are apart, and all of them are new -/
theorem m3_D {dA : Nat → ClassId} {ad : Nat → Nat} {wl : List m3C} {bs : Nat} (ha : m3_ad bs ad) (hl : wl.length ≤ 1000) : va_D (fun q => bs ≤ q) (m3_ws dA ad wl) := by
  refine ⟨fun i j p q hi hj hpq => ?_, fun k q hk => ?_⟩
  · obtain ⟨x, hx, rfl⟩ := m3_ws_of hi
    obtain ⟨y, hy, rfl⟩ := m3_ws_of hj
    have h1 := m3_lt hx
    have h2 := m3_lt hy
    have h3 : ad i = ad j := hpq
    rw [ha i (by omega), ha j (by omega)] at h3
    omega
  · obtain ⟨x, hx, rfl⟩ := m3_ws_of hk
    have h1 := m3_lt hx
    show bs ≤ ad k
    rw [ha k (by omega)]
    omega
theorem m3_ws_app {dA : Nat → ClassId} {ad : Nat → Nat} {wl : List m3C} {q : m3C} : m3_ws dA ad (wl ++ [q]) = m3_ws dA ad wl ++ [(ad wl.length, m3_e dA ad q)] := by
  unfold m3_ws
  rw [List.mapIdx_append]
  simp
theorem m3_ws_set {dA : Nat → ClassId} {ad : Nat → Nat} {wl : List m3C} {k : Nat} {q : m3C} : (m3_ws dA ad wl).set k (ad k, m3_e dA ad q) = m3_ws dA ad (wl.set k q) := by
  apply List.ext_getElem?
  intro i
  unfold m3_ws
  rw [List.getElem?_mapIdx]
  by_cases hik : k = i
  · subst hik
    by_cases hl : k < wl.length
    · rw [List.getElem?_set_self (by rw [List.length_mapIdx]; exact hl), List.getElem?_set_self hl]
      rfl
    · rw [List.getElem?_eq_none (by rw [List.length_set, List.length_mapIdx]; omega), List.getElem?_eq_none (by rw [List.length_set]; omega)]
      rfl
  · rw [List.getElem?_set_ne hik, List.getElem?_set_ne hik, List.getElem?_mapIdx]
theorem m3_sl_app {wl : List m3C} {q : m3C} : m3_sl (wl ++ [q]) = m3_sl wl + m3_n q := by
  unfold m3_sl
  rw [List.map_append, List.sum_append]
  simp
theorem m3_sl_set : ∀ {wl : List m3C} {k : Nat} {q q' : m3C}, wl[k]? = some q → m3_n q' = m3_n q → m3_sl (wl.set k q') = m3_sl wl
  | [], k, q, q', h, _ => by simp at h
  | x :: r, 0, q, q', h, hn => by
    have : x = q := by simpa using h
    subst this
    show m3_n q' + _ = m3_n x + _
    rw [hn]
  | x :: r, k + 1, q, q', h, hn => by
    have h1 : r[k]? = some q := by simpa using h
    have := m3_sl_set (q' := q') h1 hn
    show m3_n x + m3_sl (r.set k q') = m3_n x + m3_sl r
    rw [this]
/-- what is known of the classes, and that the classes of arrays of Kept and of rows are there -/
def m3_K (D : va_G) (dA : Nat → ClassId) (U : State) : Prop := m2_K D dA U ∧ va_AO "ClosesAfterSeventh$Kept" U ∧ (Cond.arrayOver (.array .int)).before #[] U = true
theorem m3_over_moved {u U : State} (hvm : u.vm.Alike U.vm) (h : (Cond.arrayOver (.array .int)).before #[] u = true) : (Cond.arrayOver (.array .int)).before #[] U = true := by
  obtain ⟨comp, c, k, h1, h2, h3, h4, h5⟩ := arrayOverA_spec (show (Cond.arrayOver (.array .int)).holds #[] u none u [] = true from h)
  obtain ⟨k', hk', he⟩ := hvm.2.2 _ _ h3
  have e1 := va_idx_bare U.vm comp
  have e2 := va_idx_bare u.vm comp
  have hbe : U.vm.bare = u.vm.bare := by first | exact hvm.bare_eq | exact hvm.bare_eq.symm
  rw [hbe] at e1
  have hi : (U.vm.classes.findIdx? fun (x : Class) => match x.kind with | .array component _ => component == comp | _ => false) = some c := e1.symm.trans (e2.trans h2)
  have hkind : k'.kind = .array comp (.array .int) := by rw [he]; exact h4
  have f1 : U.vm.findClass (FieldType.array .int).toString = some comp := by rw [hvm.findClass]; exact h1
  have f2 : U.vm.findClass ("[" ++ (FieldType.array .int).toString) = some c := by rw [hvm.findClass]; exact h5
  unfold Cond.before Cond.holds
  simp only [Cond.value]
  rw [f1, Option.bind_some]
  refine (congrArg (fun o : Option Nat => (o.bind (fun c => (U.vm.classes[c]?).map fun (k : Class) => match k.kind with | .array _ ty => decide (ty = FieldType.array .int) && decide (U.vm.findClass ("[" ++ (FieldType.array .int).toString) = some c) | _ => false) == some true)) hi).trans ?_
  simp [hk', hkind, f2]
theorem m3_K.moved {D : va_G} {dA : Nat → ClassId} {s U : State} (hW : s.WarmedH U.vm) (h : m3_K D dA s) : m3_K D dA U := ⟨h.1.moved hW, h.2.1.moved hW.alike, m3_over_moved hW.alike h.2.2⟩
theorem m3_K.same {D : va_G} {dA : Nat → ClassId} {s U : State} (hv : s.vm = U.vm) (h : m3_K D dA s) : m3_K D dA U := ⟨h.1.same hv, h.2.1.moved (by rw [← hv]; exact Vm.Alike.refl s.vm), m3_over_moved (by rw [← hv]; exact Vm.Alike.refl s.vm) h.2.2⟩
/-- what a walk of a making body stands on: mt cells and ss places in all when it ends, n0 and s0 when it began -/
def m3_C (cc : ByteArray) (own nm : String) (nL d mt ss n0 s0 bs : Nat) (p : Program) (R : Room) (s : State) (m : MethodId) (args : Array Value) (meth : Method) (c : Code) (D : va_G) (dA : Nat → ClassId) (ad : Nat → Nat) : Prop :=
  p.tables.exec = Jvm.exec ∧ c.code = cc ∧ c.maxLocals = nL ∧ s.vm.findClass own = some m.cls ∧ (∀ w ∈ m2_WS, w.before args s = true) ∧ m3_K D dA s ∧ m3_ad bs ad ∧ meth.locks = false ∧ d ≤ R.frames ∧ 40 * d ≤ R.locals ∧ mt ≤ R.cells + n0 ∧ ss ≤ R.slots + s0 ∧ bs ≤ s.heap.size ∧ meth.name = nm
def m3_J (nL n0 s0 bs : Nat) (p : Program) (l : Launch) (e : Env) (R : Room) (s : State) (m : MethodId) (args : Array Value) (below : List Frame) (meth : Method) (c : Code) (D : va_G) (dA : Nat → ClassId) (ad : Nat → Nat) (Z : State → Prop) : Nat → List Value → List Value → List m3C → Prop := fun pc ls st wl =>
  ∀ (H : Heap) (locs : List Loc) (la : Array Slot) (cn sn : Nat), (va_P D vwCl (m3_ws dA ad wl) H ∧ H.size = bs + wl.length ∧ cn + n0 = wl.length ∧ sn + s0 = m3_sl wl) → va_S (fun q => bs ≤ q) s.heap H locs → m2_lv ad nL ls la → W p l e R s m args below meth c H locs cn sn Z (F0 m pc la (st.map (m2_rv ad)))
def m3_B (κ : Nat → List Value → List Value → List m3C → Prop) (cc : ByteArray) (own nm : String) (nL d mt ss : Nat) : Prop :=
  ∃ (p : Program) (l : Launch) (e : Env) (R : Room) (s : State) (m : MethodId) (args : Array Value) (below : List Frame) (meth : Method) (c : Code) (D : va_G) (dA : Nat → ClassId) (ad : Nat → Nat) (n0 s0 bs : Nat) (Z : State → Prop), m3_C cc own nm nL d mt ss n0 s0 bs p R s m args meth c D dA ad ∧ κ = m3_J nL n0 s0 bs p l e R s m args below meth c D dA ad Z
section M3R
variable {κ : Nat → List Value → List Value → List m3C → Prop} {cc : ByteArray} {own nm : String} {nL d mt ss pc : Nat} {ls ls' st : List Value} {μ : List m3C}
theorem m3_iconst (h : m3_B κ cc own nm nL d mt ss) {n : Int} {v : Int32} (hd : decode cc pc = .ok (.iconst n, 1)) (hv : Int32.ofInt n = v) (k : κ (pc + 1) ls (.int v :: st) μ) : κ pc ls (st) μ := by
  obtain ⟨p, l, e, R, s, m, args, below, meth, c, D, dA, ad, n0, s0, bs, Z, ⟨hx, hb, -⟩, rfl⟩ := h
  intro H locs la cn sn hP hS hl
  exact lv_iconst hx hb hd hv (k H locs la cn sn hP hS hl)
theorem m3_bipush (h : m3_B κ cc own nm nL d mt ss) {n : Int} {v : Int32} (hd : decode cc pc = .ok (.bipush n, 2)) (hv : (Int8.ofInt n).toInt32 = v) (k : κ (pc + 2) ls (.int v :: st) μ) : κ pc ls (st) μ := by
  obtain ⟨p, l, e, R, s, m, args, below, meth, c, D, dA, ad, n0, s0, bs, Z, ⟨hx, hb, -⟩, rfl⟩ := h
  intro H locs la cn sn hP hS hl
  exact lv_bipush hx hb hd hv (k H locs la cn sn hP hS hl)
theorem m3_sipush (h : m3_B κ cc own nm nL d mt ss) {n : Int} {v : Int32} (hd : decode cc pc = .ok (.sipush n, 3)) (hv : (Int16.ofInt n).toInt32 = v) (k : κ (pc + 3) ls (.int v :: st) μ) : κ pc ls (st) μ := by
  obtain ⟨p, l, e, R, s, m, args, below, meth, c, D, dA, ad, n0, s0, bs, Z, ⟨hx, hb, -⟩, rfl⟩ := h
  intro H locs la cn sn hP hS hl
  exact lv_sipush hx hb hd hv (k H locs la cn sn hP hS hl)
theorem m3_dup (h : m3_B κ cc own nm nL d mt ss) {v : Value} (hd : decode cc pc = .ok (.dup, 1)) (hv : v.category = 1) (k : κ (pc + 1) ls (v :: v :: st) μ) : κ pc ls (v :: st) μ := by
  obtain ⟨p, l, e, R, s, m, args, below, meth, c, D, dA, ad, n0, s0, bs, Z, ⟨hx, hb, -⟩, rfl⟩ := h
  intro H locs la cn sn hP hS hl
  exact lv_dup hx hb hd ((m2_rv_cat ad v).trans hv) (k H locs la cn sn hP hS hl)
theorem m3_iload_n (h : m3_B κ cc own nm nL d mt ss) {i : Fin 4} {x : Int32} (hd : decode cc pc = .ok (.iload_n i, 1)) (hv : ls[(i : Nat)]? = some (.int x)) (k : κ (pc + 1) ls (.int x :: st) μ) : κ pc ls st μ := by
  obtain ⟨p, l, e, R, s, m, args, below, meth, c, D, dA, ad, n0, s0, bs, Z, ⟨hx, hb, -⟩, rfl⟩ := h
  intro H locs la cn sn hP hS hl
  exact lv_iload_n hx hb hd rfl (hl.2.2.2 _ _ hv (by simp)) (k H locs la cn sn hP hS hl)
theorem m3_iload (h : m3_B κ cc own nm nL d mt ss) {i : Nat} {x : Int32} (hd : decode cc pc = .ok (.iload i, 2)) (hv : ls[i]? = some (.int x)) (k : κ (pc + 2) ls (.int x :: st) μ) : κ pc ls st μ := by
  obtain ⟨p, l, e, R, s, m, args, below, meth, c, D, dA, ad, n0, s0, bs, Z, ⟨hx, hb, -⟩, rfl⟩ := h
  intro H locs la cn sn hP hS hl
  exact lv_iload hx hb hd (hl.2.2.2 _ _ hv (by simp)) (k H locs la cn sn hP hS hl)
theorem m3_aload_n (h : m3_B κ cc own nm nL d mt ss) {i : Fin 4} {x : Nat} (hd : decode cc pc = .ok (.aload_n i, 1)) (hv : ls[(i : Nat)]? = some (.ref x)) (k : κ (pc + 1) ls (.ref x :: st) μ) : κ pc ls st μ := by
  obtain ⟨p, l, e, R, s, m, args, below, meth, c, D, dA, ad, n0, s0, bs, Z, ⟨hx, hb, -⟩, rfl⟩ := h
  intro H locs la cn sn hP hS hl
  exact lv_aload_n hx hb hd rfl (hl.2.2.2 _ _ hv (by simp)) (k H locs la cn sn hP hS hl)
theorem m3_aload (h : m3_B κ cc own nm nL d mt ss) {i : Nat} {x : Nat} (hd : decode cc pc = .ok (.aload i, 2)) (hv : ls[i]? = some (.ref x)) (k : κ (pc + 2) ls (.ref x :: st) μ) : κ pc ls st μ := by
  obtain ⟨p, l, e, R, s, m, args, below, meth, c, D, dA, ad, n0, s0, bs, Z, ⟨hx, hb, -⟩, rfl⟩ := h
  intro H locs la cn sn hP hS hl
  exact lv_aload hx hb hd (hl.2.2.2 _ _ hv (by simp)) (k H locs la cn sn hP hS hl)
theorem m3_istore_n (h : m3_B κ cc own nm nL d mt ss) {i : Nat} {k4 : Fin 4} {x : Int32} (hd : decode cc pc = .ok (.istore_n k4, 1)) (hi : (k4 : Nat) = i) (hn : i < nL) (hs : m2_st ls i (.int x) = ls') (k : κ (pc + 1) ls' st μ) : κ pc ls (.int x :: st) μ := by
  obtain ⟨p, l, e, R, s, m, args, below, meth, c, D, dA, ad, n0, s0, bs, Z, ⟨hx, hb, -⟩, rfl⟩ := h
  intro H locs la cn sn hP hS hl
  exact lv_istore_n hx hb hd hi hl.has hn rfl (fun la' h' => k H locs la' cn sn hP hS (hs ▸ m2_lv.store (v := .int x) hl h'))
theorem m3_istore (h : m3_B κ cc own nm nL d mt ss) {i : Nat} {x : Int32} (hd : decode cc pc = .ok (.istore i, 2)) (hn : i < nL) (hs : m2_st ls i (.int x) = ls') (k : κ (pc + 2) ls' st μ) : κ pc ls (.int x :: st) μ := by
  obtain ⟨p, l, e, R, s, m, args, below, meth, c, D, dA, ad, n0, s0, bs, Z, ⟨hx, hb, -⟩, rfl⟩ := h
  intro H locs la cn sn hP hS hl
  exact lv_istore hx hb hd hl.has hn rfl (fun la' h' => k H locs la' cn sn hP hS (hs ▸ m2_lv.store (v := .int x) hl h'))
theorem m3_astore_n (h : m3_B κ cc own nm nL d mt ss) {i : Nat} {k4 : Fin 4} {x : Nat} (hd : decode cc pc = .ok (.astore_n k4, 1)) (hi : (k4 : Nat) = i) (hn : i < nL) (hs : m2_st ls i (.ref x) = ls') (k : κ (pc + 1) ls' st μ) : κ pc ls (.ref x :: st) μ := by
  obtain ⟨p, l, e, R, s, m, args, below, meth, c, D, dA, ad, n0, s0, bs, Z, ⟨hx, hb, -⟩, rfl⟩ := h
  intro H locs la cn sn hP hS hl
  exact lv_astore_n hx hb hd hi hl.has hn rfl (fun la' h' => k H locs la' cn sn hP hS (hs ▸ m2_lv.store (v := .ref x) hl h'))
theorem m3_iinc (h : m3_B κ cc own nm nL d mt ss) {i : Nat} {n : Int} {x v : Int32} (hd : decode cc pc = .ok (.iinc i n, 3)) (hv : ls[i]? = some (.int x)) (hn : i < nL) (hx0 : x + Int32.ofInt n = v) (hs : m2_st ls i (.int v) = ls') (k : κ (pc + 3) ls' st μ) : κ pc ls st μ := by
  obtain ⟨p, l, e, R, s, m, args, below, meth, c, D, dA, ad, n0, s0, bs, Z, ⟨hx, hb, -⟩, rfl⟩ := h
  intro H locs la cn sn hP hS hl
  obtain ⟨q, hq⟩ := List.getElem?_of_mem (m2_pairs_mem (ad := ad) hv (by simp))
  exact lv_iinc (k := q) hx hb hd hl.has hq hx0 hn rfl (fun la' h' => k H locs la' cn sn hP hS (hs ▸ m2_lv.store (v := .int v) hl h'))
theorem m3_icmp_ge (h : m3_B κ cc own nm nL d mt ss) {x y : Int32} {off : Int} {tgt : Nat} (hd : decode cc pc = .ok (.if_icmp .ge off, 3)) (ht : (pc : Int) + off = (tgt : Int)) (kt : y ≤ x → κ tgt ls st μ) (kf : ¬ y ≤ x → κ (pc + 3) ls st μ) : κ pc ls (.int y :: .int x :: st) μ := by
  obtain ⟨p, l, e, R, s, m, args, below, meth, c, D, dA, ad, n0, s0, bs, Z, ⟨hx, hb, -⟩, rfl⟩ := h
  intro H locs la cn sn hP hS hl
  exact lv_icmp_ge hx hb hd ht (fun q => kt q H locs la cn sn hP hS hl) (fun q => kf q H locs la cn sn hP hS hl)
theorem m3_icmp_gt (h : m3_B κ cc own nm nL d mt ss) {x y : Int32} {off : Int} {tgt : Nat} (hd : decode cc pc = .ok (.if_icmp .gt off, 3)) (ht : (pc : Int) + off = (tgt : Int)) (kt : y < x → κ tgt ls st μ) (kf : ¬ y < x → κ (pc + 3) ls st μ) : κ pc ls (.int y :: .int x :: st) μ := by
  obtain ⟨p, l, e, R, s, m, args, below, meth, c, D, dA, ad, n0, s0, bs, Z, ⟨hx, hb, -⟩, rfl⟩ := h
  intro H locs la cn sn hP hS hl
  exact lv_icmp_gt hx hb hd ht (fun q => kt q H locs la cn sn hP hS hl) (fun q => kf q H locs la cn sn hP hS hl)
theorem m3_goto (h : m3_B κ cc own nm nL d mt ss) {off : Int} {tgt : Nat} (hd : decode cc pc = .ok (.goto off, 3)) (ht : (pc : Int) + off = (tgt : Int)) (k : κ tgt ls st μ) : κ pc ls st μ := by
  obtain ⟨p, l, e, R, s, m, args, below, meth, c, D, dA, ad, n0, s0, bs, Z, ⟨hx, hb, -⟩, rfl⟩ := h
  intro H locs la cn sn hP hS hl
  exact lv_goto hx hb hd ht (k H locs la cn sn hP hS hl)
end M3R
