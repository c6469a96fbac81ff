/-! Tours.farFrom -/
theorem cnb_mn {g : Nat → Bool} : ∀ {a b : Nat}, a ≤ b → cnb g a ≤ cnb g b
  | a, 0, h => by
    have : a = 0 := by omega
    rw [this]
    exact Nat.le_refl _
  | a, b + 1, h => by
    by_cases e : a = b + 1
    · rw [e]; exact Nat.le_refl _
    · have := cnb_mn (g := g) (a := a) (b := b) (by omega)
      show _ ≤ cnb g b + _
      omega
def rmF (g : Nat → Bool) (i : Nat) : Nat → Nat
  | 0 => 0
  | N + 1 => if g N = true ∧ cnb g N = i then N else rmF g i N
def rmN (g : Nat → Bool) (i : Nat) : Nat := rmF g i 12
theorem rmF_ok {g : Nat → Bool} {i : Nat} : ∀ {N : Nat}, i < cnb g N → g (rmF g i N) = true ∧ rmF g i N < N ∧ cnb g (rmF g i N) = i
  | 0, h => absurd h (Nat.not_lt_zero i)
  | N + 1, h => by
    unfold rmF
    by_cases z : g N = true ∧ cnb g N = i
    · rw [if_pos z]
      exact ⟨z.1, by omega, z.2⟩
    · rw [if_neg z]
      have h : i < cnb g N + (if g N = true then 1 else 0) := h
      have hi : i < cnb g N := by
        by_cases e : g N = true
        · rw [if_pos e] at h
          have : cnb g N ≠ i := fun q => z ⟨e, q⟩
          omega
        · rw [if_neg e] at h
          omega
      obtain ⟨a1, a2, a3⟩ := rmF_ok hi
      exact ⟨a1, by omega, a3⟩
theorem cnb_in {g : Nat → Bool} {r N : Nat} (h : g r = true) (hr : r < N) : cnb g r < cnb g N := by
  have : cnb g (r + 1) = cnb g r + 1 := by
    show cnb g r + (if g r = true then 1 else 0) = _
    rw [if_pos h]
  have := cnb_mn (g := g) (a := r + 1) (b := N) (by omega)
  omega
theorem rmN_at {g : Nat → Bool} {r : Nat} (h : g r = true) (hr : r < 12) : rmN g (cnb g r) = r := by
  obtain ⟨a1, a2, a3⟩ := rmF_ok (cnb_in h hr)
  show rmF g (cnb g r) 12 = r
  apply Classical.byContradiction
  intro e
  rcases Nat.lt_or_gt_of_ne e with z | z
  · have := cnb_in a1 z
    omega
  · have := cnb_in h z
    omega
def svB (g : Nat → Bool) (v : Nat) : Nat → Bool := fun r => g r && v.testBit (cnb g r)
theorem tb_rm : ∀ v, v < 64 → ∀ i, i < 6 → v.testBit i = true → ∀ j, j < 6 → (v - 2 ^ i).testBit j = (v.testBit j && !decide (j = i)) := by decide +kernel
theorem tb_int : ∀ v, v < 64 → ∀ i, i < 6 → v.testBit i = true → nI v &&& (((1 : Int32) <<< (nI i &&& 31)) ^^^ (-1 : Int32)) = nI (v - 2 ^ i) := by decide +kernel
theorem tb_has : ∀ v, v < 64 → ∀ i, i < 6 → (fX11_hasBit (nI v) (nI i) = 1 ↔ v.testBit i = true) := by decide +kernel
section TV
variable {ν μ0 : m2M} {n p : Nat} {g : Nat → Bool}
def tvT (ν : m2M) (n : Nat) (S : Nat → Bool) (room : Nat) : tB := tvS (dO ν n) (cnb S 12) S room
def fvN (ν : m2M) (n : Nat) (g : Nat → Bool) (v room : Nat) : Nat := vlB (tvT ν n (svB g v) room)
def ffL (ν : m2M) (n : Nat) (g : Nat → Bool) (v room : Nat) : Nat → Nat
  | 0 => 268435456
  | i + 1 => if v.testBit i = true then min (ffL ν n g v room i) (dF ν n room (rmN g i) + fvN ν n g (v - 2 ^ i) (rmN g i)) else ffL ν n g v room i
theorem ffL_le {v room : Nat} : ∀ i, ffL ν n g v room i ≤ 268435456
  | 0 => Nat.le_refl _
  | i + 1 => by
    have := ffL_le (v := v) (room := room) i
    unfold ffL
    split
    · omega
    · exact this
theorem dO_le (h : RLn ν μ0 n p) {a b x : Nat} (ha : a < 12) (hb : b < 12) (e : dO ν n a b = some x) : x ≤ 11 := by
  unfold dO at e
  rcases ew : wyU ν n (hO ν) a b with _ | l
  · rw [ew] at e; cases e
  · rw [ew] at e
    have e : some l.length = some x := e
    cases e
    exact (wyU_dec h ha hb ew).2.1
theorem tvS_le (h : RLn ν μ0 n p) : ∀ {k : Nat} {S : Nat → Bool} {room : Nat} {q : Nat × List Nat}, room < 12 → tvS (dO ν n) k S room = some q → q.1 ≤ 11 * k ∧ q.2.length = k ∧ ∀ r, r ∈ q.2 → r < 12
  | 0, _, _, q, _, e => by
    have e : some (0, []) = some q := e
    cases e
    exact ⟨Nat.le_refl 0, rfl, fun r hr => absurd hr (by simp)⟩
  | k + 1, S, room, q, hroom, e => by
    obtain ⟨r, hr, e⟩ := tvL_f e
    by_cases z : S r = true
    · rw [if_pos z] at e
      rcases ed : dO ν n room r with _ | x
      · rw [ed] at e; cases e
      · rw [ed] at e
        rcases et : tvS (dO ν n) k (rmB S r) r with _ | q1
        · rw [et] at e; cases e
        · rw [et] at e
          have e : some (x + q1.1, [r] ++ q1.2) = some q := e
          cases e
          obtain ⟨i1, i2, i3⟩ := tvS_le h hr et
          have := dO_le h hroom hr ed
          refine ⟨by show x + q1.1 ≤ _; omega, by simp [i2], fun r' hr' => ?_⟩
          rcases List.mem_cons.mp hr' with rfl | w
          · exact hr
          · exact i3 r' w
    · rw [if_neg z] at e; cases e
theorem vlT_le (h : RLn ν μ0 n p) {k : Nat} {S : Nat → Bool} {room : Nat} (hk : k ≤ 12) (hroom : room < 12) : vlB (tvS (dO ν n) k S room) ≤ 268435456 := by
  rcases e : tvS (dO ν n) k S room with _ | q
  · exact Nat.le_refl _
  · have := (tvS_le h hroom e).1
    show q.1 ≤ _
    omega
theorem sv_rm {v i : Nat} (hv : v < 64) (hi : i < cnb g 12) (hm : cnb g 12 ≤ 6) (hb : v.testBit i = true) : ∀ r, r < 12 → rmB (svB g v) (rmN g i) r = svB g (v - 2 ^ i) r := by
  intro r hr
  obtain ⟨a1, a2, a3⟩ := rmF_ok (g := g) hi
  unfold rmB svB
  cases e : g r with
  | false => rfl
  | true =>
    have hc := cnb_in e hr
    rw [tb_rm v hv i (by omega) hb (cnb g r) (by omega), Bool.true_and, Bool.true_and]
    by_cases z : r = rmN g i
    · have : cnb g r = i := by rw [z]; exact a3
      rw [decide_eq_true z, decide_eq_true this]
    · have : ¬ cnb g r = i := fun q => z (by rw [← q]; exact (rmN_at e hr).symm)
      rw [decide_eq_false z, decide_eq_false this]
theorem cnb_sv {v : Nat} (hm : cnb g 12 ≤ 6) : cnb (svB g v) 12 ≤ 12 := cnb_le _ _
theorem ffL_eq (h : RLn ν μ0 n p) {v room : Nat} (hv : v < 64) (hm : cnb g 12 ≤ 6) (hroom : room < 12) (hne : ∃ i, i < cnb g 12 ∧ v.testBit i = true) : fvN ν n g v room = ffL ν n g v room (cnb g 12) ∧ tvT ν n (svB g v) room = tvL (fun i => if v.testBit i = true then (match dO ν n room (rmN g i) with
    | none => none
    | some x => shf x [rmN g i] (tvT ν n (svB g (v - 2 ^ i)) (rmN g i))) else none) (cnb g 12) := by
  have one : ∀ i, i < cnb g 12 → v.testBit i = true → cnb (svB g v) 12 = cnb (svB g (v - 2 ^ i)) 12 + 1 := by
    intro i hi hb
    obtain ⟨a1, a2, a3⟩ := rmF_ok (g := g) hi
    have : svB g v (rmN g i) = true := by
      show (g (rmF g i 12) && v.testBit (cnb g (rmF g i 12))) = true
      rw [a1, a3, hb]
      rfl
    rw [cnb_rm this a2, cnb_congr (sv_rm hv hi hm hb)]
  obtain ⟨i0, hi0, hb0⟩ := hne
  have e0 := one i0 hi0 hb0
  have eT : tvT ν n (svB g v) room = tvL (fun i => if v.testBit i = true then (match dO ν n room (rmN g i) with
    | none => none
    | some x => shf x [rmN g i] (tvT ν n (svB g (v - 2 ^ i)) (rmN g i))) else none) (cnb g 12) := by
    show tvS (dO ν n) (cnb (svB g v) 12) (svB g v) room = _
    rw [e0]
    have ix := tvL_ix (g := g) (rm := rmN g) (c := fun r => if svB g v r = true then (match dO ν n room r with
      | none => none
      | some x => shf x [r] (tvS (dO ν n) (cnb (svB g (v - 2 ^ i0)) 12) (rmB (svB g v) r) r)) else none) (fun r hr hg => rmN_at hg hr) (fun r hr hg => by
      have : svB g v r = false := by unfold svB; rw [hg]; rfl
      rw [if_neg (by rw [this]; decide)]) 12 (Nat.le_refl _)
    refine Eq.trans ix (tvL_congr (fun i hi => ?_))
    obtain ⟨a1, a2, a3⟩ := rmF_ok (g := g) hi
    have es : svB g v (rmN g i) = v.testBit i := by
      show (g (rmF g i 12) && v.testBit (cnb g (rmF g i 12))) = _
      rw [a1, a3]
      rfl
    rw [es]
    by_cases hb : v.testBit i = true
    · rw [if_pos hb, if_pos hb]
      have e1 := one i hi hb
      have e2 : tvS (dO ν n) (cnb (svB g (v - 2 ^ i0)) 12) (rmB (svB g v) (rmN g i)) (rmN g i) = tvT ν n (svB g (v - 2 ^ i)) (rmN g i) := by
        show _ = tvS (dO ν n) (cnb (svB g (v - 2 ^ i)) 12) _ _
        rw [show cnb (svB g (v - 2 ^ i0)) 12 = cnb (svB g (v - 2 ^ i)) 12 by omega]
        exact tvS_congr (sv_rm hv hi hm hb)
      rw [e2]
    · rw [if_neg hb, if_neg hb]
  refine ⟨?_, eT⟩
  unfold fvN
  rw [eT]
  have key : ∀ i, i ≤ cnb g 12 → vlB (tvL (fun i => if v.testBit i = true then (match dO ν n room (rmN g i) with
    | none => none
    | some x => shf x [rmN g i] (tvT ν n (svB g (v - 2 ^ i)) (rmN g i))) else none) i) = ffL ν n g v room i := by
    intro i
    induction i with
    | zero => intro _; rfl
    | succ i ih =>
      intro hi
      have ih := ih (by omega)
      obtain ⟨a1, a2, a3⟩ := rmF_ok (g := g) (show i < cnb g 12 by omega)
      have hle := ffL_le (ν := ν) (n := n) (g := g) (v := v) (room := room) i
      show vlB (mrg _ (if v.testBit i = true then _ else none)) = (if v.testBit i = true then min (ffL ν n g v room i) (dF ν n room (rmN g i) + fvN ν n g (v - 2 ^ i) (rmN g i)) else ffL ν n g v room i)
      by_cases hb : v.testBit i = true
      · rw [if_pos hb, if_pos hb]
        have ed := dF_eq h hroom (show rmN g i < 12 from a2)
        rcases e : dO ν n room (rmN g i) with _ | x
        · rw [e] at ed
          have ed : dF ν n room (rmN g i) = 268435456 := ed
          rw [ed]
          refine Eq.trans ih ?_
          omega
        · rw [e] at ed
          have ed : dF ν n room (rmN g i) = x := ed
          have hx := dO_le h hroom a2 e
          rw [ed]
          have hf : fvN ν n g (v - 2 ^ i) (rmN g i) = vlB (tvT ν n (svB g (v - 2 ^ i)) (rmN g i)) := rfl
          rw [hf]
          rcases et : tvT ν n (svB g (v - 2 ^ i)) (rmN g i) with _ | q
          · refine Eq.trans ih ?_
            show _ = min _ (x + 268435456)
            omega
          · have hq := (tvS_le h (show rmN g i < 12 from a2) et).1
            have hk := cnb_le (svB g (v - 2 ^ i)) 12
            have hq' : x + q.1 ≤ 268435456 := by omega
            refine Eq.trans (vlB_mrg (by rw [ih]; exact hle) (show x + q.1 ≤ 268435456 from hq')) ?_
            rw [ih]
            rfl
      · rw [if_neg hb, if_neg hb]
        exact ih
  exact key _ (Nat.le_refl _)
theorem fvN_0 {room : Nat} : fvN ν n g 0 room = 0 := by
  have : cnb (svB g 0) 12 = 0 := cnb_f0 (fun i _ => by unfold svB; simp)
  unfold fvN tvT
  rw [this]
  rfl
theorem fvN_le (h : RLn ν μ0 n p) {v room : Nat} (hroom : room < 12) : fvN ν n g v room ≤ 268435456 := vlT_le h (cnb_le _ _) hroom
theorem S_farFrom {D v room : Nat} (hD : 1 ≤ D) (μ : m2M) (h : RLn ν μ0 n p) (hm : cnb g 12 ≤ 6) (h5 : μ.1 kT 5 = nI (cnb g 12)) (hv : v < 2 ^ cnb g 12) (hroom : room < 12) (hF : ∀ i u, i < cnb g 12 → u < 12 → μ.1 (kFar i) u = nI (dF ν n u (rmN g i))) (hr : ∀ u i, u < v → i < cnb g 12 → μ.1 (kRest u) i = nI (fvN ν n g u (rmN g i))) : m2_MT D yX9_farFrom cX9_farFrom 5 (some .int) [.ref kT, .int (nI room), .int (nI v)] μ (fun r μ' => r = some (.int (nI (fvN ν n g v room))) ∧ μ' = μ) := by
  obtain ⟨D, rfl⟩ : ∃ E, D = E + 1 := ⟨D - 1, by omega⟩
  have hv64 : v < 64 := Nat.lt_of_lt_of_le hv (Nat.le_trans (Nat.pow_le_pow_right (by decide) hm) (by decide))
  refine m2_MT.intro (ls := [.ref kT, .int (nI room), .int (nI v), .null, .null]) (by decide +kernel) rfl (ble rfl) (fun κ hk => ?_)
  refine B_X9_farFrom_0 hk ?_
  let L : Nat → Nat := fun i => if v = 0 then 0 else ffL ν n g v room i
  have fin : L (cnb g 12) = fvN ν n g v room := by
    show (if v = 0 then 0 else ffL ν n g v room (cnb g 12)) = _
    by_cases z : v = 0
    · rw [if_pos z, z, fvN_0]
    · rw [if_neg z]
      refine (ffL_eq h hv64 hm hroom ?_).1.symm
      apply Classical.byContradiction
      intro w
      apply z
      refine Nat.eq_of_testBit_eq (fun i => ?_)
      rw [Nat.zero_testBit]
      by_cases hi : i < cnb g 12
      · cases e : v.testBit i with
        | false => rfl
        | true => exact absurd ⟨i, hi, e⟩ w
      · exact Nat.testBit_lt_two_pow (Nat.lt_of_lt_of_le hv (Nat.pow_le_pow_right (by decide) (by omega)))
  have st : κ 14 [.ref kT, .int (nI room), .int (nI v), .int (nI (L 0)), .int (nI 0)] [] μ := by
    refine dn (n := cnb g 12) (G := fun i => κ 14 [.ref kT, .int (nI room), .int (nI v), .int (nI (L i)), .int (nI i)] [] μ) ?_ (fun i hi ih => ?_)
    · refine B_X9_farFrom_14 hk (Nat.zero_le _) ⟨fun _ => ⟨by rw [fin], rfl⟩, fun w => absurd (by rw [h5]; exact nI_le (Nat.le_refl _) (by omega)) w⟩
    · refine B_X9_farFrom_14 hk (Nat.zero_le _) ⟨fun w => absurd (by rw [h5] at w; exact w) (nI_ge hi (by omega)), fun _ => ⟨fun w => ?_, fun w => ?_⟩⟩
      · have hb := (tb_has v hv64 i (by omega)).mp w
        have hle : 2 ^ i ≤ v := Nat.ge_two_pow_of_testBit hb
        have hpos : 0 < 2 ^ i := Nat.pow_pos (by decide)
        obtain ⟨a1, a2, a3⟩ := rmF_ok (g := g) hi
        refine ⟨i, rfl, by omega, vp_in_nI hroom (by decide), v - 2 ^ i, tb_int v hv64 i (by omega) hb, by omega, vp_in_nI (by omega) (by decide), ?_⟩
        have hf1 := fvN_le (g := g) (v := v - 2 ^ i) h (show rmN g i < 12 from a2)
        have hd1 : dF ν n room (rmN g i) ≤ 268435456 := by
          have ed := dF_eq h hroom (show rmN g i < 12 from a2)
          rcases e : dO ν n room (rmN g i) with _ | x
          · rw [e] at ed
            exact Nat.le_of_eq ed
          · rw [e] at ed
            have := dO_le h hroom a2 e
            have ed : dF ν n room (rmN g i) = x := ed
            omega
        have hz : v ≠ 0 := by omega
        have hL : L i = ffL ν n g v room i := if_neg hz
        have hL1 : L (i + 1) = min (L i) (dF ν n room (rmN g i) + fvN ν n g (v - 2 ^ i) (rmN g i)) := by
          rw [hL]
          show (if v = 0 then 0 else (if v.testBit i = true then min (ffL ν n g v room i) (dF ν n room (rmN g i) + fvN ν n g (v - 2 ^ i) (rmN g i)) else ffL ν n g v room i)) = _
          rw [if_neg hz, if_pos hb]
        have hLle : L i ≤ 268435456 := by rw [hL]; exact ffL_le i
        rw [nI_clamp (by omega), nI_clamp (by omega), hF i room hi hroom, hr (v - 2 ^ i) i (by omega) hi, nI_add, min_nI (by omega) (by omega), nI_1, ← hL1]
        exact ih
      · have hb : ¬ v.testBit i = true := fun e => w ((tb_has v hv64 i (by omega)).mpr e)
        have hL1 : L (i + 1) = L i := by
          show (if v = 0 then 0 else (if v.testBit i = true then min (ffL ν n g v room i) (dF ν n room (rmN g i) + fvN ν n g (v - 2 ^ i) (rmN g i)) else ffL ν n g v room i)) = (if v = 0 then 0 else ffL ν n g v room i)
          rw [if_neg hb]
        rw [nI_1, ← hL1]
        exact ih
  have e0 : (if nI v = 0 then (0 : Int32) else 268435456) = nI (L 0) := by
    show _ = nI (if v = 0 then 0 else 268435456)
    by_cases z : v = 0
    · rw [if_pos z, z]; rfl
    · rw [if_neg z, if_neg (show ¬ nI v = 0 from fun e => z ((nI_eq (b := 0) (by omega) (by decide)).mp e))]
      rfl
  rw [e0]
  exact st
end TV
