/-! exceptions: a NoSuchElementException that leaves a method of the class, and the one row of the caller's table that takes it -/
def th_E : String := "java/util/NoSuchElementException"
def th_four : List Cond := [.isRef (.static Bundle.tN "UNASSIGNED_STACK" Bundle.steD), .isRef (.static Bundle.tN "SUPPRESSED_SENTINEL" Bundle.listD), .laysStatic Bundle.tN "UNASSIGNED_STACK" Bundle.steD, .laysStatic Bundle.tN "SUPPRESSED_SENTINEL" Bundle.listD]
/-- a word of the tables that stays as they warm -/
def th_ot (w : Cond) : Bool := w.onTables && w.keepsFace
theorem th_warm {args a' : Array Value} {s U : State} {w : Cond} (hW : s.WarmedH U.vm) (hg : th_ot w = true) (h : w.before args s = true) : w.before a' U = true := by
  simp only [th_ot, Bool.and_eq_true] at hg
  have h1 := Cond.before_shiftedFace (State.Shifted.of_warmed hW) w hg.2 h
  rw [Cond.onTables_vm (A' := a') (U' := U) U.vm w hg.1, State.setVm_self] at h1
  exact h1
def th_six : ByteArray := ⟨#[0x2a, 0x2b, 0xb7, 0x00, 0x0d, 0xb1]⟩
/-- the words of 'new NoSuchElementException(String)' and of its throw: as the library's ownAtoms, but that this constructor names its superclass's by the entry 13 -/
def th_at : List Cond := Bundle.throwableAtoms ++ Bundle.throwableSAtoms ++ Bundle.passSAtoms th_E "java/lang/RuntimeException" 13 th_six ++ Bundle.chainSAtoms "java/lang/RuntimeException" ["java/lang/Exception"] ++
  [.methodLink RX11 138 (Bundle.initS th_E), .instantiable th_E 6, .castable th_E th_E, .selects th_E Bundle.tFill0 Bundle.tFill0, .selects th_E Bundle.tFill Bundle.tFill,
   .lays th_E Bundle.tN "cause" "Ljava/lang/Throwable;", .lays th_E Bundle.tN "stackTrace" Bundle.steD, .lays th_E Bundle.tN "suppressedExceptions" Bundle.listD, .lays th_E Bundle.tN "detailMessage" "Ljava/lang/String;",
   .isRef (.static Bundle.tN "UNASSIGNED_STACK" Bundle.steD), .isRef (.static Bundle.tN "SUPPRESSED_SENTINEL" Bundle.listD),
   .fieldLink Bundle.tN 198 Bundle.tN "backtrace" "Ljava/lang/Object;", .lays Bundle.tN Bundle.tN "backtrace" "Ljava/lang/Object;", .lays th_E Bundle.tN "backtrace" "Ljava/lang/Object;"]
def th_WS : List Cond := (Cond.classLink RX11 134 th_E :: .initialized th_E :: .classLink RL 13 th_E :: .castable th_E th_E :: th_at).filter th_ot
theorem th_WS_tbl : ∀ w ∈ th_WS, w ∈ lw_tbl := by decide +kernel
theorem th_words : ∀ w ∈ th_at, w ∈ th_WS ∨ w ∈ th_four := by decide +kernel
theorem th_links : ∀ w ∈ [Cond.classLink RX11 134 th_E, .initialized th_E, .classLink RL 13 th_E, .castable th_E th_E], w ∈ th_WS := by decide +kernel
/-- one of Throwable's statics: where it lies, and that it holds a reference or null -/
def th_S (n d : String) (A : Nat → Prop) (U : State) (H : Heap) : Prop := ∃ (c : ClassId) (k : Class) (i : Nat) (f : Field) (a : Nat) (cell : Cell) (v : Value), U.vm.findClass Bundle.tN = some c ∧ U.fieldFound? Bundle.tN n d = some (c, k, i, f) ∧ f.isStatic = true ∧ k.statics = some a ∧ H[a]? = some cell ∧ cell.vm.isStatics = true ∧ cell.cls = c ∧ f.slot < cell.slots.size ∧ k.staticTypes[f.slot]? = some f.type ∧ cell.slots[f.slot]? = some v ∧ v.isRef = true ∧ ¬ A a
theorem th_S.moved {n d : String} {A : Nat → Prop} {u U : State} {H : Heap} (hvm : u.vm.Alike U.vm) (h : th_S n d A u H) : th_S n d A U H := by
  obtain ⟨c, k, i, f, a, cell, v, h1, h2, h3, h4, h5, h6, h7, h8, h9, h10⟩ := h
  obtain ⟨k', hi, he⟩ := State.fieldFound?_setVm hvm h2
  refine ⟨c, k', i, f, a, cell, v, ?_, hi, h3, ?_, h5, h6, h7, h8, ?_, h10⟩
  · rw [hvm.findClass]; exact h1
  · rw [he]; exact h4
  · rw [he]; exact h9
theorem th_S.kept {n d : String} {A B : Nat → Prop} {U : State} {H H1 : Heap} (h : th_S n d A U H) (hq : ∀ a : Nat, a < H.size → ¬ A a → H1[a]? = H[a]?) (hB : ∀ a : Nat, a < H.size → B a → A a) : th_S n d B U H1 := by
  obtain ⟨c, k, i, f, a, cell, v, h1, h2, h3, h4, h5, h6, h7, h8, h9, h10, h11, h12⟩ := h
  have hlt := (Array.getElem?_eq_some_iff.mp h5).1
  exact ⟨c, k, i, f, a, cell, v, h1, h2, h3, h4, by rw [hq a hlt h12]; exact h5, h6, h7, h8, h9, h10, h11, fun z => h12 (hB a hlt z)⟩
theorem th_S.lays {n d : String} {A : Nat → Prop} {U : State} {args : Array Value} (h : th_S n d A U U.heap) : (Cond.laysStatic Bundle.tN n d).before args U = true := by
  obtain ⟨c, k, i, f, a, cell, v, h1, h2, h3, h4, h5, h6, h7, h8, h9, -⟩ := h
  exact Cond.laysStatic_of (args := args) (first := U) (o := none) (idx := []) h1 h2 h3 h4 h5 h6 h7 h8 h9
theorem th_S.ref {n d : String} {A : Nat → Prop} {U : State} {args : Array Value} (h : th_S n d A U U.heap) : (Cond.isRef (.static Bundle.tN n d)).before args U = true := by
  obtain ⟨c, k, i, f, a, cell, v, h1, h2, h3, h4, h5, h6, h7, h8, h9, h10, h11, -⟩ := h
  have he : (Term.static Bundle.tN n d).eval args U none [] U = some v := by
    simp [Term.eval, State.fieldNamed?, h2, h3, h4, h5, h6, h10]
  simp only [Cond.before, Cond.holds, Cond.value, he]
  cases v <;> simp_all [Value.isRef]
/-- .. out of the words of a start -/
theorem th_S.of {n d : String} {A : Nat → Prop} {s : State} {args : Array Value} (hl : (Cond.laysStatic Bundle.tN n d).before args s = true) (hr : (Cond.isRef (.static Bundle.tN n d)).before args s = true) (hA : ∀ a : Nat, a < s.heap.size → ¬ A a) : th_S n d A s s.heap := by
  obtain ⟨c, k, i, f, a, cell, h1, h2, h3, h4, h5, h6, h7, h8, h9⟩ := Cond.laysStatic_spec hl
  cases hv : (Term.static Bundle.tN n d).eval args s none [] s with
  | none => simp [Cond.before, Cond.holds, Cond.value, hv] at hr
  | some w =>
    obtain ⟨-, a', cell', q1, q2, -, q3⟩ := Term.static_spec h2 hv
    cases h4.symm.trans q1
    cases h5.symm.trans q2
    refine ⟨c, k, i, f, a, cell, w, h1, h2, h3, h4, h5, h6, h7, h8, h9, q3, ?_, hA a (Array.getElem?_eq_some_iff.mp h5).1⟩
    cases w <;> simp_all [Cond.before, Cond.holds, Cond.value, Value.isRef]
def th_tx : Nat → String
  | 136 => "no such DOOR, or another what"
  | 165 => "none such of PEOPLE, or another what"
  | _ => "no such number of the ROW"
/-- what a throw takes along -/
def th_G (ad : Nat → Nat) (U : State) : Prop := (∀ w ∈ th_WS, w.before #[] U = true) ∧ th_S "UNASSIGNED_STACK" Bundle.steD (m2_A ad U.heap.size) U U.heap ∧ th_S "SUPPRESSED_SENTINEL" Bundle.listD (m2_A ad U.heap.size) U U.heap ∧ ∀ i ∈ [136, 165, 419], ∃ sa, vk_R RX11 i (th_tx i) sa U
theorem th_G.moved {ad : Nat → Nat} {s U : State} {H : Heap} {locs : List Loc} (hS : va_S (m2_A ad s.heap.size) s.heap H locs) (hU : U.heap = H) (hW : s.WarmedH U.vm) (h : th_G ad s) : th_G ad U := by
  subst hU
  have hA : ∀ q : Nat, q < s.heap.size → m2_A ad U.heap.size q → m2_A ad s.heap.size q := by
    intro q hq h
    rcases h with h | h
    · exact Or.inl h
    · exact Or.inr (Nat.le_trans hS.1 h)
  obtain ⟨h1, h2, h3, h4⟩ := h
  refine ⟨fun w hw => th_warm hW (List.mem_filter.mp hw).2 (h1 w hw), (h2.kept hS.2.1 hA).moved hW.alike, (h3.kept hS.2.1 hA).moved hW.alike, fun i hi => ?_⟩
  obtain ⟨sa, q⟩ := h4 i hi
  exact ⟨sa, vk_R.warm hW q⟩
theorem th_G.same {ad : Nat → Nat} {s U : State} (hh : s.heap = U.heap) (hv : s.vm = U.vm) (h : th_G ad s) : th_G ad U := by
  have hW : s.WarmedH U.vm := by rw [← hv]; exact State.WarmedH.refl s
  exact th_G.moved (locs := []) (by rw [hh]; exact va_S.rf) rfl hW h
theorem th_G.atoms {ad : Nat → Nat} {U : State} {args : Array Value} (h : th_G ad U) : ∀ w ∈ th_at, w.before args U = true := by
  obtain ⟨h1, h2, h3, -⟩ := h
  intro w hw
  rcases th_words w hw with q | q
  · exact th_warm (State.WarmedH.refl U) (List.mem_filter.mp q).2 (h1 w q)
  · simp only [th_four, List.mem_cons, List.not_mem_nil, or_false] at q
    rcases q with rfl | rfl | rfl | rfl
    · exact h2.ref
    · exact h3.ref
    · exact h2.lays
    · exact h3.lays
