/-! making: rows of rows (over the library's multianewarray2F, as the names that TURN prints take it) -/
theorem m3_sum_rep (N x : Nat) : (List.replicate N x).sum = N * x := by
  induction N with
  | zero => simp
  | succ N ih => rw [List.replicate_succ, List.sum_cons, ih, Nat.succ_mul, Nat.add_comm]
theorem m3_sl_rows {μ : List m3C} {N K : Nat} {rs : List (Nat × Int32)} : m3_sl (μ ++ (7, N, rs) :: List.replicate N (3, K, [])) = m3_sl μ + (N + N * K) := by
  unfold m3_sl
  rw [List.map_append, List.sum_append, List.map_cons, List.sum_cons, List.map_replicate, m3_sum_rep]
  rfl
theorem m3_multi {κ : Nat → List Value → List Value → List m3C → Prop} {cc : ByteArray} {own nm : String} {nL d mt ss pc : Nat} {ls st : List Value} {μ : List m3C} (h : m3_B κ cc own nm nL d mt ss) {N K idx c1 : Nat} {n k : Int32} (hl0 : Cond.classLink own idx "[[I" ∈ m2_WS) (hs : μ.length = c1 ∧ c1 + (1 + N) ≤ mt ∧ m3_sl μ + (N + N * K) ≤ ss ∧ c1 + N < 1000) (hn : (¬ n < 0 ∧ n.toNatClampNeg = N) ∧ (¬ k < 0 ∧ k.toNatClampNeg = K) ∧ N ≤ 1000 ∧ K ≤ 1000) (hd : decode cc pc = .ok (.multianewarray idx 2, 4))
    (kk : κ (pc + 4) ls (.ref c1 :: st) (μ ++ (7, N, (List.range N).map (fun i => (c1 + 1 + i + 2, 0))) :: List.replicate N (3, K, []))) : κ pc ls (.int k :: .int n :: st) μ := by
  obtain ⟨p, l, e, R, s, m, args, below, meth, c, D, dA, ad, n0, s0, bs, Z, ⟨hx, hb, hml, ho, hw, hK, hj, hk, hfr, hlo, hce, hsl, hbs, hnm⟩, rfl⟩ := h
  obtain ⟨hc1, h1, h2, h3⟩ := hs
  obtain ⟨⟨hn1, hn2⟩, ⟨hk1, hk2⟩, hNl, hKl⟩ := hn
  intro H locs la cn sn hP hS hl
  obtain ⟨hP, hz, hc, hs⟩ := hP
  subst hc1
  subst hn2
  subst hk2
  have est : "[" ++ (FieldType.array .int).toString = "[[I" := by decide +kernel
  have hcl : (Cond.classLink own idx ("[" ++ (FieldType.array .int).toString)).before args s = true := by rw [est]; exact hw _ hl0
  intro T hT Xs
  obtain ⟨vm₁, cA, comp, -, fA, fC, -, -, X', step⟩ := Xs.multianewarray2F (ty := .int) hx ho hcl (show (Cond.arrayOver (.array .int)).before args s = true from hK.2.2) (hw _ (m2_at 194 (by decide +kernel) rfl)) (g := F0 m pc la ((Value.int k :: .int n :: st).map (m2_rv ad))) rfl (by rw [hb]; exact hd) rfl hn1 hk1 (by omega) (by show _ * 4 ≤ _; omega) (by omega) rfl rfl (by omega) (by omega)
  have hcA : cA = dA 6 := Option.some.inj (fA.symm.trans (show s.vm.findClass ("[" ++ (FieldType.array .int).toString) = some (dA 6) from (hK.1.1.2 6 (dA 6, .array .int) rfl).2))
  have hco : comp = dA 2 := Option.some.inj (fC.symm.trans (show s.vm.findClass (FieldType.array .int).toString = some (dA 2) from (hK.1.1.2 2 (dA 2, .int) rfl).2))
  subst hcA
  subst hco
  generalize hF : Jvm.Free.Multi.fill (T.setVm vm₁) (dA 6) (dA 2) n.toNatClampNeg k.toNatClampNeg (defaultValue .int) n.toNatClampNeg = F at X' step
  have hTh : (T.setVm vm₁).heap = H := hT
  obtain ⟨f1, f2, -, -⟩ := Jvm.Free.Multi.fill_facts (T.setVm vm₁) (dA 6) (dA 2) n.toNatClampNeg k.toNatClampNeg (defaultValue .int) n.toNatClampNeg
  rw [hF, hTh] at f1 f2
  have hold : ∀ x : Nat, x < H.size → F.heap[x]? = H[x]? := fun x hx => by
    have := Jvm.Free.Multi.fill_old (T.setVm vm₁) (dA 6) (dA 2) n.toNatClampNeg k.toNatClampNeg (defaultValue .int) (a := x) (by rw [hTh]; exact hx) n.toNatClampNeg
    rw [hF, hTh] at this
    exact this
  have hrow : ∀ j : Nat, j < n.toNatClampNeg → F.heap[H.size + 1 + j]? = some (vp_cell (dA 2) (k.toNatClampNeg, .inl (fun _ => 0))) := fun j hj => by
    have := Jvm.Free.Multi.fill_inner (T.setVm vm₁) (dA 6) (dA 2) n.toNatClampNeg k.toNatClampNeg (defaultValue .int) n.toNatClampNeg j hj
    rw [hF, hTh] at this
    rw [this]
    exact congrArg some (arrV_new (dA 2) k.toNatClampNeg (.int 0))
  rw [m3_outer] at f2
  have e0 : ad μ.length = H.size := by rw [hj _ (by omega), hz]
  have ef : (fun j : Nat => (((List.range n.toNatClampNeg).map (fun i => ((μ.length + 1 + i + 2, 0) : Nat × Int32)))[j]?).bind (m3_o ad)) = fun j => if j < n.toNatClampNeg then some (H.size + 1 + j) else none := by
    funext j
    rw [List.getElem?_map]
    by_cases hj0 : j < n.toNatClampNeg
    · rw [List.getElem?_range hj0, if_pos hj0]
      show some (ad (μ.length + 1 + j)) = some (H.size + 1 + j)
      rw [hj _ (by omega), hz]
      congr 1
      omega
    · rw [List.getElem?_eq_none (by rw [List.length_range]; omega), if_neg hj0]
      rfl
  have hP2 : va_P D vwCl (m3_ws dA ad (μ ++ (7, n.toNatClampNeg, (List.range n.toNatClampNeg).map (fun i => (μ.length + 1 + i + 2, 0))) :: List.replicate n.toNatClampNeg (3, k.toNatClampNeg, []))) F.heap := by
    intro i x hx
    obtain ⟨q, hq, rfl⟩ := m3_ws_of hx
    by_cases h5 : i < μ.length
    · rw [List.getElem?_append_left h5] at hq
      have h6 := hP i _ (m3_ws_get hq)
      exact h6.kept (hold _ h6.lt)
    · rw [List.getElem?_append_right (by omega)] at hq
      by_cases h6 : i = μ.length
      · subst h6
        rw [Nat.sub_self] at hq
        cases hq
        show F.heap[ad μ.length]? = some (vp_cell (dA 6) (n.toNatClampNeg, .inr (.inr (.inr (.inr (fun j : Nat => (((List.range n.toNatClampNeg).map (fun i => ((μ.length + 1 + i + 2, 0) : Nat × Int32)))[j]?).bind (m3_o ad)))))))
        rw [ef, vp_cell_q, e0]
        exact f2
      · obtain ⟨j, rfl⟩ : ∃ j, i = μ.length + 1 + j := ⟨i - μ.length - 1, by omega⟩
        rw [show μ.length + 1 + j - μ.length = j + 1 by omega, List.getElem?_cons_succ] at hq
        have hjl : j < n.toNatClampNeg := by
          have := (List.getElem?_eq_some_iff.mp hq).1
          rw [List.length_replicate] at this
          exact this
        have hqe := List.eq_of_mem_replicate (List.mem_of_getElem? hq)
        subst hqe
        show F.heap[ad (μ.length + 1 + j)]? = some (vp_cell (dA 2) (k.toNatClampNeg, .inl (fun _ => 0)))
        rw [hj _ (by omega), show bs + (μ.length + 1 + j) = H.size + 1 + j by rw [hz]; omega]
        exact hrow j hjl
  have k1 := kk F.heap locs la (cn + 1 + n.toNatClampNeg) (sn + n.toNatClampNeg + n.toNatClampNeg * k.toNatClampNeg) ⟨hP2, by rw [f1, hz, List.length_append, List.length_cons, List.length_replicate]; omega, by rw [List.length_append, List.length_cons, List.length_replicate]; omega, by rw [m3_sl_rows]; omega⟩ (m3_S hS (by omega) hold) hl F rfl X'
  obtain ⟨t, a, b⟩ := k1
  refine ⟨t, step t ?_, b⟩
  rw [List.map_cons, show m2_rv ad (.ref μ.length) = .ref H.size from congrArg Value.ref e0, ← hT] at a
  exact a
