/-! the law's own walk: κ n is the walk after n throws; the script is the cell 1002, outside the world -/
def m2_LW (κ : Nat → Nat → List Value → List Value → m2M → Prop) (mx d L : Nat) (xs : Nat → Int32) : Prop :=
  ∃ (p : Program) (l : Launch) (e : Env) (R : Room) (s : State) (m : MethodId) (args : Array Value) (below : List Frame) (meth : Method) (c : Code) (D : va_G) (dA : Nat → ClassId) (ad : Nat → Nat) (c0 s0 : Nat) (Z : State → Prop), m2_C code RL 8 d p R s m args meth c D dA ad (c0 + mx) (s0 + 6 * mx) ∧ l.stackTraces = false ∧ th_G ad s ∧ m2_Str ad s ∧ va_X (ad 1002) L xs s s.heap ∧ ad 1002 < s.heap.size ∧ ¬ m2_A ad s.heap.size (ad 1002) ∧
    κ = fun n => m2_J 8 p l e R s m args below meth c D dA ad (c0 + n) (s0 + 6 * n) Z
theorem th_Cle {cc : ByteArray} {own : String} {nL d : Nat} {p : Program} {R : Room} {s : State} {m : MethodId} {args : Array Value} {meth : Method} {c : Code} {D : va_G} {dA : Nat → ClassId} {ad : Nat → Nat} {i j i' j' : Nat} (h : m2_C cc own nL d p R s m args meth c D dA ad i j) (hi : i' ≤ i) (hj : j' ≤ j) : m2_C cc own nL d p R s m args meth c D dA ad i' j' := by
  obtain ⟨hx, hb, hml, ho, hw, hK, hj0, hk, hfr, hlo, hce, hsl⟩ := h
  exact ⟨hx, hb, hml, ho, hw, hK, hj0, hk, hfr, hlo, Nat.le_trans hi hce, Nat.le_trans hj hsl⟩
section LW1
variable {κ : Nat → Nat → List Value → List Value → m2M → Prop} {mx d L n pc : Nat} {xs : Nat → Int32} {ls st : List Value} {μ : m2M}
theorem m2_LW.b (h : m2_LW κ mx d L xs) (hn : n ≤ mx) : m2_B (κ n) code RL 8 d := by
  obtain ⟨p, l, e, R, s, m, args, below, meth, c, D, dA, ad, c0, s0, Z, hC, -, -, -, -, -, -, rfl⟩ := h
  exact ⟨p, l, e, R, s, m, args, below, meth, c, D, dA, ad, c0 + n, s0 + 6 * n, Z, th_Cle hC (by omega) (by omega), rfl⟩
theorem m2_LW.bs (h : m2_LW κ mx d L xs) (hn : n ≤ mx) : m2_Bs (κ n) code RL 8 d := by
  obtain ⟨p, l, e, R, s, m, args, below, meth, c, D, dA, ad, c0, s0, Z, hC, -, -, hs, -, -, -, rfl⟩ := h
  exact ⟨p, l, e, R, s, m, args, below, meth, c, D, dA, ad, c0 + n, s0 + 6 * n, Z, th_Cle hC (by omega) (by omega), hs, rfl⟩
theorem m2_LW.bb (h : m2_LW κ mx d L xs) (hn : n < mx) : m2_BB (κ n) (κ (n + 1)) code RL 8 d := by
  obtain ⟨p, l, e, R, s, m, args, below, meth, c, D, dA, ad, c0, s0, Z, hC, hst, hG, -, -, -, -, rfl⟩ := h
  exact ⟨p, l, e, R, s, m, args, below, meth, c, D, dA, ad, c0 + n, s0 + 6 * n, Z, th_Cle hC (by omega) (by omega), hst, hG, rfl, rfl⟩
/-- a turn that threw nothing counts as one that threw: the room is an upper bound -/
theorem m2_LW.up (h : m2_LW κ mx d L xs) {n' : Nat} (hn : n ≤ n') (k : κ n' pc ls st μ) : κ n pc ls st μ := by
  obtain ⟨p, l, e, R, s, m, args, below, meth, c, D, dA, ad, c0, s0, Z, hC, -, -, -, -, -, -, rfl⟩ := h
  intro H locs la hP hS hl T hT X
  exact k H locs la hP hS hl T hT (stand_widen X (by omega) (by omega))
theorem m2_LW.len (h : m2_LW κ mx d L xs) (hd : decode code pc = .ok (.arraylength, 1)) (k : κ n (pc + 1) ls (.int (nI L) :: st) μ) : κ n pc ls (.ref 1002 :: st) μ := by
  obtain ⟨p, l, e, R, s, m, args, below, meth, c, D, dA, ad, c0, s0, Z, ⟨hx, hb, hml, ho, hw, hK, hj0, hk, hfr, hlo, hce, hsl⟩, -, -, -, hX, hlt, hnA, rfl⟩ := h
  intro H locs la hP hS hl
  exact va_slen hx hb hX hlt hnA hS hd (k H locs la hP hS hl)
theorem m2_LW.ld (h : m2_LW κ mx d L xs) {i : Int32} (hin : vp_in i L) (hd : decode code pc = .ok (.iaload, 1)) (k : κ n (pc + 1) ls (.int (xs i.toNatClampNeg) :: st) μ) : κ n pc ls (.int i :: .ref 1002 :: st) μ := by
  obtain ⟨p, l, e, R, s, m, args, below, meth, c, D, dA, ad, c0, s0, Z, ⟨hx, hb, hml, ho, hw, hK, hj0, hk, hfr, hlo, hce, hsl⟩, -, -, -, hX, hlt, hnA, rfl⟩ := h
  intro H locs la hP hS hl
  exact va_sld hx hb hX hlt hnA hS hin hd (k H locs la hP hS hl)
end LW1
