/-! bits, rooms -/
theorem i31 {i : Nat} (h : i < 32) : nI i &&& 31 = nI i := by
  have : ∀ i, i < 32 → nI i &&& 31 = nI i := by decide +kernel
  exact this i h
theorem shl_bv {i : Nat} (h : i < 32) : ((1 : Int32) <<< nI i).toBitVec = (1#32) <<< i := by
  have : ∀ i, i < 32 → ((1 : Int32) <<< nI i).toBitVec = (1#32) <<< i := by decide +kernel
  exact this i h
theorem shl_get {i : Nat} (h : i < 32) (j : Nat) : ((1 : Int32) <<< nI i).toBitVec.getLsbD j = decide (j = i) := by
  rw [shl_bv h]
  simp only [BitVec.getLsbD_shiftLeft, BitVec.getLsbD_one]
  by_cases e : j = i
  · subst e; simp [h]
  · by_cases e2 : j < i
    · simp [e, e2]
    · have : ¬ j - i = 0 := by omega
      simp [e, this]
theorem bts_get (f : Nat → Bool) : ∀ {n : Nat} (j : Nat), n ≤ 32 → (bts f n).toBitVec.getLsbD j = (decide (j < n) && f j)
  | 0, j, _ => by
    show (0 : Int32).toBitVec.getLsbD j = _
    simp
  | n + 1, j, h => by
    show (bts f n ||| _).toBitVec.getLsbD j = _
    rw [Int32.toBitVec_or, BitVec.getLsbD_or, bts_get f j (by omega), i31 (by omega)]
    by_cases hf : f n = true
    · rw [if_pos hf, shl_get (by omega)]
      by_cases e : j = n
      · subst e; simp [hf]
      · by_cases e2 : j < n
        · simp [e, e2, show j < n + 1 by omega]
        · simp [e, e2, show ¬ j < n + 1 by omega]
    · rw [if_neg hf]
      have hf : f n = false := by cases e : f n with
        | false => rfl
        | true => exact absurd e hf
      by_cases e : j = n
      · subst e; simp [hf]
      · by_cases e2 : j < n
        · simp [e2, show j < n + 1 by omega]
        · simp [e2, show ¬ j < n + 1 by omega]
theorem bv_ext {x y : Int32} (h : ∀ j, j < 32 → x.toBitVec.getLsbD j = y.toBitVec.getLsbD j) : x = y := Int32.toBitVec_inj.mp (BitVec.eq_of_getLsbD_eq h)
theorem has_get {x : Int32} {i : Nat} (h : i < 32) : (x >>> (nI i &&& 31)) &&& 1 = if x.toBitVec.getLsbD i = true then 1 else 0 := by
  rw [i31 h]
  have hs : ((nI i).toBitVec.smod 32).toNat = i := by
    have : ∀ i, i < 32 → ((nI i).toBitVec.smod 32).toNat = i := by decide +kernel
    exact this i h
  apply bv_ext
  intro j hj
  rw [Int32.toBitVec_and, BitVec.getLsbD_and]
  have e1 : (x >>> nI i).toBitVec = x.toBitVec.sshiftRight i := by
    show x.toBitVec.sshiftRight' _ = _
    rw [BitVec.sshiftRight_eq', hs]
  have e2 : (1 : Int32).toBitVec.getLsbD j = decide (j = 0) := by
    show (1#32).getLsbD j = _
    rw [BitVec.getLsbD_one]
    simp
  rw [e1, e2]
  by_cases ej : j = 0
  · subst ej
    rw [BitVec.getLsbD_sshiftRight]
    by_cases g : x.toBitVec.getLsbD i = true
    · rw [if_pos g]
      rw [e2]
      simp [h]
      rw [BitVec.getLsbD_eq_getElem h] at g
      exact g
    · rw [if_neg g]
      simp [h]
      simpa [h] using g
  · rw [decide_eq_false ej, Bool.and_false]
    by_cases g : x.toBitVec.getLsbD i = true
    · rw [if_pos g, e2, decide_eq_false ej]
    · rw [if_neg g]
      simp
theorem hasBit_get {x : Int32} {i : Nat} (h : i < 32) : fX11_hasBit x (nI i) = 1 ↔ x.toBitVec.getLsbD i = true := by
  unfold fX11_hasBit
  rw [has_get h]
  by_cases g : x.toBitVec.getLsbD i = true
  · simp [g]
  · simp [g]
theorem has_iff {x : Int32} {i : Nat} (h : i < 32) : fX12_has x (nI i) = 1 ↔ x.toBitVec.getLsbD i = true := by
  unfold fX12_has
  rw [has_get h]
  by_cases g : x.toBitVec.getLsbD i = true
  · simp [g]
  · simp [g]
theorem bts_or {f : Nat → Bool} {n i : Nat} (hn : n ≤ 32) (hi : i < n) : bts f n ||| (1 : Int32) <<< (nI i &&& 31) = bts (fun j => f j || decide (j = i)) n := by
  apply bv_ext
  intro j hj
  rw [Int32.toBitVec_or, BitVec.getLsbD_or, bts_get _ _ hn, bts_get _ _ hn, i31 (by omega), shl_get (by omega)]
  by_cases e : j = i
  · subst e; simp [hi]
  · simp [e]
theorem bts_one {n i : Nat} (hn : n ≤ 32) (hi : i < n) : (1 : Int32) <<< (nI i &&& 31) = bts (fun j => decide (j = i)) n := by
  apply bv_ext
  intro j hj
  rw [bts_get _ _ hn, i31 (by omega), shl_get (by omega)]
  by_cases e : j = i
  · subst e; simp [hi]
  · simp [e]
theorem bts_inj {f g : Nat → Bool} {n : Nat} (hn : n ≤ 32) (h : bts f n = bts g n) : ∀ i, i < n → f i = g i := by
  intro i hi
  have h1 := bts_get f i hn
  rw [h, bts_get g i hn] at h1
  simpa [hi] using h1.symm
theorem isRoom_iff {x : Int32} : fX11_isRoom x = 1 ↔ in_ 12 x := by
  rw [← has_in (by decide)]
  unfold fX11_isRoom
  by_cases h1 : x < 0
  · rw [if_pos h1]; exact ⟨fun q => absurd q (by decide), fun q => absurd h1 q.1⟩
  · rw [if_neg h1]
    by_cases h2 : 12 ≤ x
    · rw [if_pos h2]; exact ⟨fun q => absurd q (by decide), fun q => absurd h2 q.2⟩
    · rw [if_neg h2]; exact ⟨fun _ => ⟨h1, h2⟩, fun _ => rfl⟩
theorem isRoomM_iff {x : Int32} : fX12_isRoom x = 1 ↔ in_ 12 x := by
  have := in_k (x := x) (k := 11) (by decide)
  unfold fX12_isRoom
  by_cases q : fX12_in x 0 11 = 1
  · rw [if_pos q]; exact ⟨fun _ => this.mp q, fun _ => rfl⟩
  · rw [if_neg q]; exact ⟨fun z => absurd z (by decide), fun z => absurd (this.mpr z) q⟩
theorem unlike_iff {x y : Int32} : fX11_areUnlikeRooms x y = 1 ↔ in_ 12 x ∧ in_ 12 y ∧ x ≠ y := by
  unfold fX11_areUnlikeRooms
  rw [← isRoom_iff, ← isRoom_iff]
  by_cases h1 : fX11_isRoom x = 1 <;> by_cases h2 : fX11_isRoom y = 1 <;> by_cases h3 : x = y <;> simp [h1, h2, h3]
theorem ends_iff {x y : Int32} : fX12_areEnds x y = 1 ↔ in_ 12 x ∧ in_ 12 y ∧ x ≠ y := by
  unfold fX12_areEnds
  rw [← isRoomM_iff, ← isRoomM_iff]
  by_cases h1 : fX12_isRoom x = 1 <;> by_cases h2 : fX12_isRoom y = 1 <;> by_cases h3 : x = y <;> simp [h1, h2, h3]
