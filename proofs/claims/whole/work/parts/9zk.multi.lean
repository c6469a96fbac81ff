/-! making: rows of rows -/
theorem m3_multi {κ : Nat → List Value → List Value → List m3C → Prop} {cc : ByteArray} {own nm : String} {nL d mt ss pc : Nat} {ls st : List Value} {μ : List m3C} (h : m3_B κ cc own nm nL d mt ss) {N K idx c1 : Nat} {n k : Int32} (hl0 : Cond.classLink own idx "[[I" ∈ m2_WS) (hs : μ.length = c1 ∧ c1 + (1 + N) ≤ mt ∧ m3_sl μ + (N + N * K) ≤ ss ∧ c1 + N < 1000) (hn : (¬ n < 0 ∧ n.toNatClampNeg = N) ∧ (¬ k < 0 ∧ k.toNatClampNeg = K) ∧ N ≤ 1000 ∧ K ≤ 1000) (hd : decode cc pc = .ok (.multianewarray idx 2, 4))
    (kk : κ (pc + 4) ls (.ref c1 :: st) (μ ++ (7, N, (List.range N).map (fun i => (c1 + 1 + i + 2, 0))) :: List.replicate N (3, K, []))) : κ pc ls (.int k :: .int n :: st) μ := by
  sorry
