/-! what is kept: put by, brought back -/
/-- a window of a row -/
def wdw (f g : Nat → Int32) (a k : Nat) : Nat → Int32 := fun j => if a ≤ j ∧ j < k then g j else f j
theorem wdw_0 (f g : Nat → Int32) (a : Nat) : wdw f g a a = f := by
  funext j
  unfold wdw
  rw [if_neg (by omega)]
theorem wdw_s (f g : Nat → Int32) {a k : Nat} (h : a ≤ k) {x : Int32} (hx : x = g k) : upd (wdw f g a k) k x = wdw f g a (k + 1) := by
  funext j
  subst hx
  unfold wdw upd
  by_cases e : j = k
  · rw [if_pos e, if_pos (by omega), e]
  · rw [if_neg e]
    show (if a ≤ j ∧ j < k then g j else f j) = _
    by_cases e2 : a ≤ j ∧ j < k
    · rw [if_pos e2, if_pos (by omega)]
    · rw [if_neg e2, if_neg (by omega)]
def ptG (ν : m2M) (i : Nat) : Nat → Int32 := fun j => if j < 45 * i + 20 then ν.1 kM_left (j - 45 * i) else if j = 45 * i + 44 then ν.1 kM 16 else if (j - (45 * i + 20)) % 3 = 0 then ν.1 kM_where ((j - (45 * i + 20)) / 3) else if (j - (45 * i + 20)) % 3 = 1 then (if ν.1 kM_wasThere ((j - (45 * i + 20)) / 3) = 0 then 0 else 1) else (if ν.1 kM_isDone ((j - (45 * i + 20)) / 3) = 0 then 0 else 1)
def ptF (ν : m2M) (i : Nat) : Nat → Int32 := wdw (ν.1 kM_put) (ptG ν i) (45 * i) (45 * i + 45)
theorem ptG_l (ν : m2M) (i d : Nat) (h : d < 20) : ptG ν i (45 * i + d) = ν.1 kM_left d := by
  unfold ptG
  rw [if_pos (by omega), Nat.add_sub_cancel_left]
theorem ptG_h (ν : m2M) (i : Nat) : ptG ν i (45 * i + 44) = ν.1 kM 16 := by
  unfold ptG
  rw [if_neg (by omega), if_pos rfl]
theorem ptG_w (ν : m2M) (i q : Nat) (h : q < 8) : ptG ν i (45 * i + 20 + 3 * q) = ν.1 kM_where q := by
  unfold ptG
  rw [if_neg (by omega), if_neg (by omega), Nat.add_sub_cancel_left, if_pos (by omega), show 3 * q / 3 = q by omega]
theorem ptG_t (ν : m2M) (i q : Nat) (h : q < 8) : ptG ν i (45 * i + 20 + 3 * q + 1) = (if ν.1 kM_wasThere q = 0 then 0 else 1) := by
  unfold ptG
  rw [if_neg (by omega), if_neg (by omega), show 45 * i + 20 + 3 * q + 1 - (45 * i + 20) = 3 * q + 1 by omega, if_neg (by omega), if_pos (by omega), show (3 * q + 1) / 3 = q by omega]
theorem ptG_o (ν : m2M) (i q : Nat) (h : q < 8) : ptG ν i (45 * i + 20 + 3 * q + 2) = (if ν.1 kM_isDone q = 0 then 0 else 1) := by
  unfold ptG
  rw [if_neg (by omega), if_neg (by omega), show 45 * i + 20 + 3 * q + 2 - (45 * i + 20) = 3 * q + 2 by omega, if_neg (by omega), if_neg (by omega), show (3 * q + 2) / 3 = q by omega]
theorem S_putIn {D i : Nat} (hi : i < 4) (ν : m2M) : m2_MT D yX12_putIn cX12_putIn 4 none [.ref kM, .int (nI i)] ν (fun _ ν' => ν' = m2_sr ν kM_put (ptF ν i)) := by
  refine m2_MT.intro (ls := [.ref kM, .int (nI i), .null, .null]) (by decide +kernel) rfl (ble rfl) (fun κ hk => ?_)
  refine B_X12_putIn_0 hk ?_
  rw [show (45 : Int32) = nI 45 from rfl, pk_mul]
  have ef : ∀ (g : Nat → Int32) (c j : Nat), c ≠ kM_put → (m2_sr ν kM_put g).1 c j = ν.1 c j := fun g c j h => by rw [m2_sr_ne _ _ h]
  have key := dn (n := 20) (G := fun d => κ 7 [.ref kM, .int (nI i), .int (nI (45 * i)), .int (nI d)] [] (m2_sr ν kM_put (wdw (ν.1 kM_put) (ptG ν i) (45 * i) (45 * i + d)))) ?_ (fun d hd ih => ?_)
  · rw [Nat.add_zero, wdw_0, m2_sr_id] at key
    exact key
  · refine B_X12_putIn_7 hk ⟨fun _ => ?_, fun q => absurd (by decide) q⟩
    rw [show (20 : Int32) = nI 20 from rfl, nI_add]
    refine dn (n := 8) (G := fun q => κ 38 [.ref kM, .int (nI i), .int (nI (45 * i + 20)), .int (nI q)] [] (m2_sr ν kM_put (wdw (ν.1 kM_put) (ptG ν i) (45 * i) (45 * i + 20 + 3 * q)))) ?_ (fun q hq ih => ?_)
    · refine B_X12_putIn_38 hk ⟨fun _ => ?_, fun q => absurd (by decide) q⟩
      rw [show (24 : Int32) = nI 24 from rfl, nI_add, nI_clamp (by omega), m2_si_sr, ef _ _ _ (by decide)]
      refine ⟨vp_in_nI (by omega) (by decide), ?_⟩
      rw [show 45 * i + 20 + 3 * 8 = 45 * i + 44 by omega, show 45 * i + 20 + 24 = 45 * i + 44 by omega, wdw_s _ _ (by omega) (ptG_h ν i).symm]
      rfl
    · refine B_X12_putIn_38 hk ⟨fun z => absurd z (nI_ge (b := 8) hq (by decide)), fun _ => ?_⟩
      rw [show (3 : Int32) = nI 3 from rfl, pk_mul, nI_add, nI_1, show (2 : Int32) = nI 2 from rfl, nI_add, nI_clamp (by omega), nI_clamp (by omega), nI_clamp (by omega), nI_clamp (by omega), nI_1]
      refine ⟨vp_in_nI (by omega) (by decide), vp_in_nI (by omega) (by decide), vp_in_nI (by omega) (by decide), vp_in_nI (by omega) (by decide), ?_⟩
      rw [m2_si_sr, m2_si_sr, m2_si_sr, ef _ _ _ (by decide), ef _ _ _ (by decide), ef _ _ _ (by decide), wdw_s _ _ (by omega) (ptG_w ν i q hq).symm, wdw_s _ _ (by omega) (ptG_t ν i q hq).symm, wdw_s _ _ (by omega) (ptG_o ν i q hq).symm]
      rw [show 45 * i + 20 + 3 * q + 2 + 1 = 45 * i + 20 + 3 * (q + 1) by omega]
      exact ih
  · refine B_X12_putIn_7 hk ⟨fun z => absurd z (nI_ge (b := 20) hd (by decide)), fun _ => ⟨vp_in_nI hd (by decide), ?_⟩⟩
    rw [nI_add, nI_clamp (by omega), nI_clamp (by omega), nI_1, m2_si_sr, ef _ _ _ (by decide), wdw_s _ _ (by omega) (ptG_l ν i d hd).symm]
    exact ⟨vp_in_nI (by omega) (by decide), ih⟩
/-- what is taken out -/
def tkM (ν : m2M) (i n p : Nat) : m2M := m2_si (m2_sr (m2_sr (m2_sr (m2_sr ν kM_left (lft (ν.1 kM_left) (fun d => ν.1 kM_put (45 * i + d)) n)) kM_where (lft (ν.1 kM_where) (fun q => ν.1 kM_put (45 * i + 20 + 3 * q)) p)) kM_wasThere (lft (ν.1 kM_wasThere) (fun q => if ν.1 kM_put (45 * i + 20 + 3 * q + 1) = 1 then 1 else 0) p)) kM_isDone (lft (ν.1 kM_isDone) (fun q => if ν.1 kM_put (45 * i + 20 + 3 * q + 2) = 1 then 1 else 0) p)) kM 16 (ν.1 kM_put (45 * i + 44))
theorem S_takeOut {D i n p : Nat} (hi : i < 4) (hn : n ≤ 20) (hp : p ≤ 8) (ν : m2M) : m2_MT D yX12_takeOut cX12_takeOut 6 none [.ref kM, .int (nI i), .int (nI n), .int (nI p)] ν (fun _ ν' => ν' = tkM ν i n p) := by
  refine m2_MT.intro (ls := [.ref kM, .int (nI i), .int (nI n), .int (nI p), .null, .null]) (by decide +kernel) rfl (ble rfl) (fun κ hk => ?_)
  refine B_X12_takeOut_0 hk ?_
  rw [show (45 : Int32) = nI 45 from rfl, pk_mul]
  have key := dn (n := n) (G := fun d => κ 9 [.ref kM, .int (nI i), .int (nI n), .int (nI p), .int (nI (45 * i)), .int (nI d)] [] (m2_sr ν kM_left (lft (ν.1 kM_left) (fun d => ν.1 kM_put (45 * i + d)) d))) ?_ (fun d hd ih => ?_)
  · rw [lft_0, m2_sr_id] at key
    exact key
  · refine B_X12_takeOut_9 hk ⟨fun _ => ?_, fun q => absurd (nI_le (Nat.le_refl n) (by omega)) q⟩
    rw [show (20 : Int32) = nI 20 from rfl, nI_add]
    generalize hν : m2_sr ν kM_left (lft (ν.1 kM_left) (fun d => ν.1 kM_put (45 * i + d)) n) = ν1
    have eP : ν1.1 kM_put = ν.1 kM_put := by rw [← hν]; rfl
    have eW : ν1.1 kM_where = ν.1 kM_where := by rw [← hν]; rfl
    have eT : ν1.1 kM_wasThere = ν.1 kM_wasThere := by rw [← hν]; rfl
    have eO : ν1.1 kM_isDone = ν.1 kM_isDone := by rw [← hν]; rfl
    have key2 := dn (n := p) (G := fun q => κ 44 [.ref kM, .int (nI i), .int (nI n), .int (nI p), .int (nI (45 * i + 20)), .int (nI q)] [] (m2_sr (m2_sr (m2_sr ν1 kM_where (lft (ν.1 kM_where) (fun q => ν.1 kM_put (45 * i + 20 + 3 * q)) q)) kM_wasThere (lft (ν.1 kM_wasThere) (fun q => if ν.1 kM_put (45 * i + 20 + 3 * q + 1) = 1 then 1 else 0) q)) kM_isDone (lft (ν.1 kM_isDone) (fun q => if ν.1 kM_put (45 * i + 20 + 3 * q + 2) = 1 then 1 else 0) q))) ?_ (fun q hq ih => ?_)
    · rw [lft_0, lft_0, lft_0, ← eW, ← eT, ← eO, m2_sr_id, m2_sr_id, m2_sr_id] at key2
      exact key2
    · refine B_X12_takeOut_44 hk ⟨fun _ => ?_, fun q => absurd (nI_le (Nat.le_refl p) (by omega)) q⟩
      rw [show (24 : Int32) = nI 24 from rfl, nI_add, nI_clamp (by omega)]
      refine ⟨vp_in_nI (by omega) (by decide), ?_⟩
      subst hν
      rw [show 45 * i + 20 + 24 = 45 * i + 44 by omega]
      rfl
    · refine B_X12_takeOut_44 hk ⟨fun z => absurd z (nI_ge hq (by omega)), fun _ => ?_⟩
      rw [show (3 : Int32) = nI 3 from rfl, pk_mul, nI_add, nI_1, show (2 : Int32) = nI 2 from rfl, nI_add, nI_clamp (by omega), nI_clamp (by omega), nI_clamp (by omega), nI_clamp (by omega), nI_1, nar_if, nar_if]
      refine ⟨vp_in_nI (by omega) (by decide), vp_in_nI (by omega) (by decide), vp_in_nI (by omega) (by decide), vp_in_nI (by omega) (by decide), ?_⟩
      have st : ∀ (f g h : Nat → Int32) (x y z : Int32), m2_si (m2_si (m2_si (m2_sr (m2_sr (m2_sr ν1 kM_where f) kM_wasThere g) kM_isDone h) kM_where q x) kM_wasThere q y) kM_isDone q z = m2_sr (m2_sr (m2_sr ν1 kM_where (upd f q x)) kM_wasThere (upd g q y)) kM_isDone (upd h q z) := by
        intro f g h x y z
        rw [m2_sr_comm _ (c := kM_wasThere) (c' := kM_isDone) _ _ (by decide), m2_sr_comm _ (c := kM_where) (c' := kM_isDone) _ _ (by decide), m2_sr_comm _ (c := kM_where) (c' := kM_wasThere) _ _ (by decide), m2_si_sr]
        rw [m2_sr_comm _ (c := kM_wasThere) (c' := kM_where) _ _ (by decide), m2_si_sr, m2_sr_comm _ (c := kM_isDone) (c' := kM_where) _ _ (by decide), m2_sr_comm _ (c := kM_isDone) (c' := kM_wasThere) _ _ (by decide), m2_si_sr]
      rw [st]
      have e0 : ∀ j, (m2_sr (m2_sr (m2_sr ν1 kM_where (lft (ν.1 kM_where) (fun q => ν.1 kM_put (45 * i + 20 + 3 * q)) q)) kM_wasThere (lft (ν.1 kM_wasThere) (fun q => if ν.1 kM_put (45 * i + 20 + 3 * q + 1) = 1 then 1 else 0) q)) kM_isDone (lft (ν.1 kM_isDone) (fun q => if ν.1 kM_put (45 * i + 20 + 3 * q + 2) = 1 then 1 else 0) q)).1 kM_put j = ν.1 kM_put j := fun j => congrFun eP j
      rw [e0, e0, e0]
      rw [← lft_s, ← lft_s, ← lft_s] at ih
      exact ih
  · refine B_X12_takeOut_9 hk ⟨fun z => absurd z (nI_ge hd (by omega)), fun _ => ?_⟩
    rw [nI_add, nI_clamp (by omega), nI_clamp (by omega), nI_1, m2_si_sr]
    refine ⟨vp_in_nI (by omega) (by decide), vp_in_nI (by omega) (by decide), ?_⟩
    rw [← lft_s] at ih
    exact ih
