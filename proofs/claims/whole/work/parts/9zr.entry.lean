/-! what is known at the law's entry -/
theorem lw_arr {s : State} {args : Array Value} {ty : FieldType} (h : (Cond.arrayClass ty).before args s = true) (hRA : ∀ cA : ClassId, s.vm.findClass ("[" ++ ty.toString) = some cA → va_RA s cA ty) : ∃ cA : ClassId, ArrOfT s cA ty ∧ va_RA s cA ty := by
  obtain ⟨c, k, comp, h1, h2, h3⟩ := Cond.arrayClass_spec (show (Cond.arrayClass ty).holds args s none s [] = true from h)
  exact ⟨c, fun n z => ⟨fun k h => (by cases h), k, h2, comp, h3⟩, hRA c h1⟩
theorem lw_known {s : State} {args : Array Value} (hts : ∀ w ∈ lw_tbl, w.before args s = true) : ∃ (D : va_G) (dA : Nat → ClassId), m3_K D dA s := by
  have hw : ∀ w ∈ m2_WS, w.before args s = true := fun w h => hts w (List.mem_filter.mp h).1
  have one : ∀ {C : String} {ci N : Nat} {vs : List (Nat × Int32)}, m3_CL C ci N vs → ∃ z : ClassId × (Nat → Nat), ∀ q : vw_C, vwCl[ci]? = some q → u_Kn s q.1 q.2.1 q.2.2 z.1 z.2 := by
    intro C ci N vs h
    obtain ⟨T, ty0, h1, h2, h3, h4, h5, h6, h7⟩ := h
    obtain ⟨cC, iS, h⟩ := u_known hw h2 (hw _ h4)
    exact ⟨(cC, iS), fun q hq => by rw [h1] at hq; cases hq; exact h⟩
  have key : ∀ k : Nat, ∃ z : ClassId × (Nat → Nat), ∀ q : vw_C, vwCl[k]? = some q → u_Kn s q.1 q.2.1 q.2.2 z.1 z.2 := by
    intro k
    match k with
    | 0 => exact one kl_X0
    | 1 => exact one kl_X1
    | 2 => exact one kl_X2
    | 3 => exact one kl_X3
    | 4 => exact one kl_X4
    | 5 => exact one kl_X5
    | 6 => exact one kl_X6
    | 7 => exact one kl_X7
    | 8 => exact one kl_X8
    | 9 => exact one kl_X9
    | 10 => exact one kl_X10
    | 11 => exact one kl_X11
    | 12 => exact one kl_X12
    | k + 13 => exact ⟨(0, fun _ => 0), fun q hq => by rw [List.getElem?_eq_none (by show 13 ≤ k + 13; omega)] at hq; cases hq⟩
  obtain ⟨z, hz⟩ := Classical.axiomOfChoice key
  have hAO : va_AO "ClosesAfterSeventh$Kept" s := va_AO.of (hts (.arrayOver (.object "ClosesAfterSeventh$Kept")) (List.mem_of_getElem? (i := 125) (by decide +kernel)))
  have hAA : (Cond.arrayOver (.array .int)).before #[] s = true := hts (.arrayOver (.array .int)) (List.mem_of_getElem? (i := 548) (by decide +kernel))
  obtain ⟨c0, a0, b0⟩ := lw_arr (ty := .byte) (hw _ (m2_at 865 (by decide +kernel) rfl)) (fun _ h => h)
  obtain ⟨c1, a1, b1⟩ := lw_arr (ty := .char) (hw _ (m2_at 192 (by decide +kernel) rfl)) (fun _ h => h)
  obtain ⟨c2, a2, b2⟩ := lw_arr (ty := .int) (hw _ (m2_at 194 (by decide +kernel) rfl)) (fun _ h => h)
  obtain ⟨c3, a3, b3⟩ := lw_arr (ty := .long) (hw _ (m2_at 193 (by decide +kernel) rfl)) (fun _ h => h)
  obtain ⟨c4, a4, b4⟩ := lw_arr (ty := .boolean) (hw _ (m2_at 195 (by decide +kernel) rfl)) (fun _ h => h)
  obtain ⟨m5, c5, k5, f1, -, f3, f4, f5⟩ := Cond.arrayOver_spec (show (Cond.arrayOver (.object "ClosesAfterSeventh$Kept")).holds #[] s none s [] = true from hAO)
  obtain ⟨m6, c6, k6, g1, -, g3, g4, g5⟩ := arrayOverA_spec (show (Cond.arrayOver (.array .int)).holds #[] s none s [] = true from hAA)
  have a5 : ArrOfT s c5 (.object "ClosesAfterSeventh$Kept") := fun n z => ⟨fun k h => (by cases h), k5, f3, m5, f4⟩
  have a6 : ArrOfT s c6 (.array .int) := fun n z => ⟨fun k h => (by cases h), k6, g3, m6, g4⟩
  have b5 : va_RA s c5 (.object "ClosesAfterSeventh$Kept") := ⟨k5, m5, f3, f4, f1, f5⟩
  have b6 : va_RA s c6 (.array .int) := g5
  refine ⟨(fun k => (z k).1, fun k => (z k).2), fun k => [c0, c1, c2, c3, c4, c5, c6].getD k 0, ⟨⟨fun c q hq => hz c q hq, fun k q hk => ?_⟩, fun w h => ?_⟩, hAO, hAA⟩
  · match k, hk with
    | 0, hk => cases hk; exact ⟨a0, b0⟩
    | 1, hk => cases hk; exact ⟨a1, b1⟩
    | 2, hk => cases hk; exact ⟨a2, b2⟩
    | 3, hk => cases hk; exact ⟨a3, b3⟩
    | 4, hk => cases hk; exact ⟨a4, b4⟩
    | 5, hk => cases hk; exact ⟨a5, b5⟩
    | 6, hk => cases hk; exact ⟨a6, b6⟩
    | k + 7, hk =>
      have h9 : k + 7 < 7 := (List.getElem?_eq_some_iff.mp hk).1
      omega
  · obtain ⟨a, i, x, b, rfl⟩ := m2_NW_tab h
    exact hts _ (List.mem_filter.mp h).1
/-- the text constant of Price, and that of each throw -/
theorem lw_str {s : State} {args : Array Value} {A : Nat → Prop} (hts : ∀ w ∈ lw_tbl, w.before args s = true) (hgv : (Jvm.Cond.and given_1 narrow_1).before args s = true) (hA : ∀ a : Nat, a < s.heap.size → ¬ A a) : ∃ a v : Nat, vk_R RX7 91 "lmohwk" a s ∧ va_O "java/lang/String" a A s s.heap ∧ va_OF "java/lang/String" "coder" "B" (.int 0) a A s s.heap ∧ va_OF "java/lang/String" "value" "[B" (.ref v) a A s s.heap ∧ va_T .byte v 6 (fun j => .int (lmB j)) A s s.heap := by
  have hs := flat_of_before _ hgv
  obtain ⟨adK, adV, h1, h2⟩ := vk_Sof (args := args) (s := s) (N := 1) (tm := fun _ => .string RX7 91) (len := [6]) (byt := [[108, 109, 111, 104, 119, 107]]) (A := A) (fun i hi => by match i, hi with | 0, _ => decide)
    (fun i hi => hs _ (by decide +kernel)) (fun i hi => hs _ (by decide +kernel)) (fun i hi => hs _ (by decide +kernel)) (fun i hi => by match i, hi with | 0, _ => exact hs _ (by decide +kernel))
    (fun i hi j hj => by
      match i, hi with
      | 0, _ =>
        have hj : j < 6 := hj
        match j, hj with
        | 0, _ => exact hs _ (by decide +kernel)
        | 1, _ => exact hs _ (by decide +kernel)
        | 2, _ => exact hs _ (by decide +kernel)
        | 3, _ => exact hs _ (by decide +kernel)
        | 4, _ => exact hs _ (by decide +kernel)
        | 5, _ => exact hs _ (by decide +kernel))
    (fun i j hi hj hne => absurd (show i = j by omega) hne) hA
  obtain ⟨q1, q2, q3, q4⟩ := h1.1 0 (by decide)
  exact ⟨adK 0, adV 0, vk_R.of (hts (.stringRef RX7 91 "lmohwk") (by decide +kernel)) (h2 0 (by decide)), q1, q2, q3, q4⟩
theorem lw_text {s : State} {args : Array Value} {i : Nat} {tx : String} (hr : (Cond.stringRef RX11 i tx).before args s = true) (hx : (Cond.exactly (.string RX11 i) "java/lang/String").before args s = true) : ∃ sa, vk_R RX11 i tx sa s := by
  obtain ⟨a, c, cA, kA, q1, -⟩ := Cond.exactly_spec (args := args) (first := s) (o := none) (s := s) (idx := []) (t := .string RX11 i) (cls := "java/lang/String") hx
  exact ⟨a, vk_R.of hr q1⟩
theorem lw_thG {s : State} {args : Array Value} {ad : Nat → Nat} (hts : ∀ w ∈ lw_tbl, w.before args s = true) (hgv : (Jvm.Cond.and given_1 narrow_1).before args s = true) (hA : ∀ a : Nat, a < s.heap.size → ¬ m2_A ad s.heap.size a) : th_G ad s := by
  have hs := flat_of_before _ hgv
  refine ⟨fun w hw => th_warm (State.WarmedH.refl s) (List.mem_filter.mp hw).2 (hts w (th_WS_tbl w hw)), th_S.of (args := args) (hts _ (by decide +kernel)) (hs _ (by decide +kernel)) hA, th_S.of (args := args) (hts _ (by decide +kernel)) (hs _ (by decide +kernel)) hA, fun i hi => ?_⟩
  simp only [List.mem_cons, List.not_mem_nil, or_false] at hi
  rcases hi with rfl | rfl | rfl
  · exact lw_text (args := args) (hts _ (by decide +kernel)) (hs _ (by decide +kernel))
  · exact lw_text (args := args) (hts _ (by decide +kernel)) (hs _ (by decide +kernel))
  · exact lw_text (args := args) (hts _ (by decide +kernel)) (hs _ (by decide +kernel))
