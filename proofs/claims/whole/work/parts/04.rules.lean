section M2R
variable {κ : Nat → List Value → List Value → m2M → Prop} {cc : ByteArray} {own : String} {nL d pc : Nat} {ls ls' st : List Value} {μ : m2M}
theorem m2_iconst (h : m2_B κ cc own nL d) {n : Int} {v : Int32} (hd : decode cc pc = .ok (.iconst n, 1)) (hv : Int32.ofInt n = v) (k : κ (pc + 1) ls (.int v :: st) μ) : κ pc ls (st) μ := by
  obtain ⟨p, l, e, R, s, m, args, below, meth, c, D, dA, ad, cells, slots, Z, ⟨hx, hb, hml, ho, hw, hK, hj, hk, hfr, hlo, hce, hsl⟩, rfl⟩ := h
  intro H locs la hP hS hl
  exact lv_iconst hx hb hd hv (k H locs la hP hS hl)
theorem m2_bipush (h : m2_B κ cc own nL d) {n : Int} {v : Int32} (hd : decode cc pc = .ok (.bipush n, 2)) (hv : (Int8.ofInt n).toInt32 = v) (k : κ (pc + 2) ls (.int v :: st) μ) : κ pc ls (st) μ := by
  obtain ⟨p, l, e, R, s, m, args, below, meth, c, D, dA, ad, cells, slots, Z, ⟨hx, hb, hml, ho, hw, hK, hj, hk, hfr, hlo, hce, hsl⟩, rfl⟩ := h
  intro H locs la hP hS hl
  exact lv_bipush hx hb hd hv (k H locs la hP hS hl)
theorem m2_sipush (h : m2_B κ cc own nL d) {n : Int} {v : Int32} (hd : decode cc pc = .ok (.sipush n, 3)) (hv : (Int16.ofInt n).toInt32 = v) (k : κ (pc + 3) ls (.int v :: st) μ) : κ pc ls (st) μ := by
  obtain ⟨p, l, e, R, s, m, args, below, meth, c, D, dA, ad, cells, slots, Z, ⟨hx, hb, hml, ho, hw, hK, hj, hk, hfr, hlo, hce, hsl⟩, rfl⟩ := h
  intro H locs la hP hS hl
  exact lv_sipush hx hb hd hv (k H locs la hP hS hl)
theorem m2_lconst (h : m2_B κ cc own nL d) {n : Fin 2} {v : Int64} (hd : decode cc pc = .ok (.lconst n, 1)) (hv : Int64.ofNat (n : Nat) = v) (k : κ (pc + 1) ls (.long v :: st) μ) : κ pc ls (st) μ := by
  obtain ⟨p, l, e, R, s, m, args, below, meth, c, D, dA, ad, cells, slots, Z, ⟨hx, hb, hml, ho, hw, hK, hj, hk, hfr, hlo, hce, hsl⟩, rfl⟩ := h
  intro H locs la hP hS hl
  exact lv_lconst hx hb hd hv (k H locs la hP hS hl)
theorem m2_iadd (h : m2_B κ cc own nL d) {x y : Int32} (hd : decode cc pc = .ok (.iadd, 1)) (k : κ (pc + 1) ls (.int (x + y) :: st) μ) : κ pc ls (.int y :: .int x :: st) μ := by
  obtain ⟨p, l, e, R, s, m, args, below, meth, c, D, dA, ad, cells, slots, Z, ⟨hx, hb, hml, ho, hw, hK, hj, hk, hfr, hlo, hce, hsl⟩, rfl⟩ := h
  intro H locs la hP hS hl
  exact lv_iadd hx hb hd (k H locs la hP hS hl)
theorem m2_isub (h : m2_B κ cc own nL d) {x y : Int32} (hd : decode cc pc = .ok (.isub, 1)) (k : κ (pc + 1) ls (.int (x - y) :: st) μ) : κ pc ls (.int y :: .int x :: st) μ := by
  obtain ⟨p, l, e, R, s, m, args, below, meth, c, D, dA, ad, cells, slots, Z, ⟨hx, hb, hml, ho, hw, hK, hj, hk, hfr, hlo, hce, hsl⟩, rfl⟩ := h
  intro H locs la hP hS hl
  exact lv_isub hx hb hd (k H locs la hP hS hl)
theorem m2_imul (h : m2_B κ cc own nL d) {x y : Int32} (hd : decode cc pc = .ok (.imul, 1)) (k : κ (pc + 1) ls (.int (x * y) :: st) μ) : κ pc ls (.int y :: .int x :: st) μ := by
  obtain ⟨p, l, e, R, s, m, args, below, meth, c, D, dA, ad, cells, slots, Z, ⟨hx, hb, hml, ho, hw, hK, hj, hk, hfr, hlo, hce, hsl⟩, rfl⟩ := h
  intro H locs la hP hS hl
  exact lv_imul hx hb hd (k H locs la hP hS hl)
theorem m2_iand (h : m2_B κ cc own nL d) {x y : Int32} (hd : decode cc pc = .ok (.iand, 1)) (k : κ (pc + 1) ls (.int (x &&& y) :: st) μ) : κ pc ls (.int y :: .int x :: st) μ := by
  obtain ⟨p, l, e, R, s, m, args, below, meth, c, D, dA, ad, cells, slots, Z, ⟨hx, hb, hml, ho, hw, hK, hj, hk, hfr, hlo, hce, hsl⟩, rfl⟩ := h
  intro H locs la hP hS hl
  exact lv_iand hx hb hd (k H locs la hP hS hl)
theorem m2_ior (h : m2_B κ cc own nL d) {x y : Int32} (hd : decode cc pc = .ok (.ior, 1)) (k : κ (pc + 1) ls (.int (x ||| y) :: st) μ) : κ pc ls (.int y :: .int x :: st) μ := by
  obtain ⟨p, l, e, R, s, m, args, below, meth, c, D, dA, ad, cells, slots, Z, ⟨hx, hb, hml, ho, hw, hK, hj, hk, hfr, hlo, hce, hsl⟩, rfl⟩ := h
  intro H locs la hP hS hl
  exact lv_ior hx hb hd (k H locs la hP hS hl)
theorem m2_ixor (h : m2_B κ cc own nL d) {x y : Int32} (hd : decode cc pc = .ok (.ixor, 1)) (k : κ (pc + 1) ls (.int (x ^^^ y) :: st) μ) : κ pc ls (.int y :: .int x :: st) μ := by
  obtain ⟨p, l, e, R, s, m, args, below, meth, c, D, dA, ad, cells, slots, Z, ⟨hx, hb, hml, ho, hw, hK, hj, hk, hfr, hlo, hce, hsl⟩, rfl⟩ := h
  intro H locs la hP hS hl
  exact lv_ixor hx hb hd (k H locs la hP hS hl)
theorem m2_ishl (h : m2_B κ cc own nL d) {x y : Int32} (hd : decode cc pc = .ok (.ishl, 1)) (k : κ (pc + 1) ls (.int (x <<< (y &&& 31)) :: st) μ) : κ pc ls (.int y :: .int x :: st) μ := by
  obtain ⟨p, l, e, R, s, m, args, below, meth, c, D, dA, ad, cells, slots, Z, ⟨hx, hb, hml, ho, hw, hK, hj, hk, hfr, hlo, hce, hsl⟩, rfl⟩ := h
  intro H locs la hP hS hl
  exact lv_ishl hx hb hd (k H locs la hP hS hl)
theorem m2_ishr (h : m2_B κ cc own nL d) {x y : Int32} (hd : decode cc pc = .ok (.ishr, 1)) (k : κ (pc + 1) ls (.int (x >>> (y &&& 31)) :: st) μ) : κ pc ls (.int y :: .int x :: st) μ := by
  obtain ⟨p, l, e, R, s, m, args, below, meth, c, D, dA, ad, cells, slots, Z, ⟨hx, hb, hml, ho, hw, hK, hj, hk, hfr, hlo, hce, hsl⟩, rfl⟩ := h
  intro H locs la hP hS hl
  exact lv_ishr hx hb hd (k H locs la hP hS hl)
theorem m2_idiv (h : m2_B κ cc own nL d) {x y : Int32} (hd : decode cc pc = .ok (.idiv, 1)) (hne : ¬ y = 0) (k : κ (pc + 1) ls (.int (x / y) :: st) μ) : κ pc ls (.int y :: .int x :: st) μ := by
  obtain ⟨p, l, e, R, s, m, args, below, meth, c, D, dA, ad, cells, slots, Z, ⟨hx, hb, hml, ho, hw, hK, hj, hk, hfr, hlo, hce, hsl⟩, rfl⟩ := h
  intro H locs la hP hS hl
  exact lv_idiv hx hb hd hne (k H locs la hP hS hl)
theorem m2_ineg (h : m2_B κ cc own nL d) {x : Int32} (hd : decode cc pc = .ok (.ineg, 1)) (k : κ (pc + 1) ls (.int (-x) :: st) μ) : κ pc ls (.int x :: st) μ := by
  obtain ⟨p, l, e, R, s, m, args, below, meth, c, D, dA, ad, cells, slots, Z, ⟨hx, hb, hml, ho, hw, hK, hj, hk, hfr, hlo, hce, hsl⟩, rfl⟩ := h
  intro H locs la hP hS hl
  exact lv_ineg hx hb hd (k H locs la hP hS hl)
theorem m2_iushr (h : m2_B κ cc own nL d) {x y v : Int32} (hd : decode cc pc = .ok (.iushr, 1)) (hv : (x.toUInt32 >>> (y.toUInt32 &&& Int32.toUInt32 31)).toInt32 = v) (k : κ (pc + 1) ls (.int v :: st) μ) : κ pc ls (.int y :: .int x :: st) μ := by
  obtain ⟨p, l, e, R, s, m, args, below, meth, c, D, dA, ad, cells, slots, Z, ⟨hx, hb, hml, ho, hw, hK, hj, hk, hfr, hlo, hce, hsl⟩, rfl⟩ := h
  intro H locs la hP hS hl
  exact lv_iushr hx hb hd hv (k H locs la hP hS hl)
theorem m2_ladd (h : m2_B κ cc own nL d) {x y : Int64} (hd : decode cc pc = .ok (.ladd, 1)) (k : κ (pc + 1) ls (.long (x + y) :: st) μ) : κ pc ls (.long y :: .long x :: st) μ := by
  obtain ⟨p, l, e, R, s, m, args, below, meth, c, D, dA, ad, cells, slots, Z, ⟨hx, hb, hml, ho, hw, hK, hj, hk, hfr, hlo, hce, hsl⟩, rfl⟩ := h
  intro H locs la hP hS hl
  exact lv_ladd hx hb hd (k H locs la hP hS hl)
theorem m2_lsub (h : m2_B κ cc own nL d) {x y : Int64} (hd : decode cc pc = .ok (.lsub, 1)) (k : κ (pc + 1) ls (.long (x - y) :: st) μ) : κ pc ls (.long y :: .long x :: st) μ := by
  obtain ⟨p, l, e, R, s, m, args, below, meth, c, D, dA, ad, cells, slots, Z, ⟨hx, hb, hml, ho, hw, hK, hj, hk, hfr, hlo, hce, hsl⟩, rfl⟩ := h
  intro H locs la hP hS hl
  exact lv_lsub hx hb hd (k H locs la hP hS hl)
theorem m2_lmul (h : m2_B κ cc own nL d) {x y : Int64} (hd : decode cc pc = .ok (.lmul, 1)) (k : κ (pc + 1) ls (.long (x * y) :: st) μ) : κ pc ls (.long y :: .long x :: st) μ := by
  obtain ⟨p, l, e, R, s, m, args, below, meth, c, D, dA, ad, cells, slots, Z, ⟨hx, hb, hml, ho, hw, hK, hj, hk, hfr, hlo, hce, hsl⟩, rfl⟩ := h
  intro H locs la hP hS hl
  exact lv_lmul hx hb hd (k H locs la hP hS hl)
theorem m2_i2l (h : m2_B κ cc own nL d) {x : Int32} (hd : decode cc pc = .ok (.i2l, 1)) (k : κ (pc + 1) ls (.long x.toInt64 :: st) μ) : κ pc ls (.int x :: st) μ := by
  obtain ⟨p, l, e, R, s, m, args, below, meth, c, D, dA, ad, cells, slots, Z, ⟨hx, hb, hml, ho, hw, hK, hj, hk, hfr, hlo, hce, hsl⟩, rfl⟩ := h
  intro H locs la hP hS hl
  exact lv_i2l hx hb hd rfl (k H locs la hP hS hl)
theorem m2_i2b (h : m2_B κ cc own nL d) {x : Int32} (hd : decode cc pc = .ok (.i2b, 1)) (k : κ (pc + 1) ls (.int x.toInt8.toInt32 :: st) μ) : κ pc ls (.int x :: st) μ := by
  obtain ⟨p, l, e, R, s, m, args, below, meth, c, D, dA, ad, cells, slots, Z, ⟨hx, hb, hml, ho, hw, hK, hj, hk, hfr, hlo, hce, hsl⟩, rfl⟩ := h
  intro H locs la hP hS hl
  exact lv_i2b hx hb hd rfl (k H locs la hP hS hl)
theorem m2_i2s (h : m2_B κ cc own nL d) {x : Int32} (hd : decode cc pc = .ok (.i2s, 1)) (k : κ (pc + 1) ls (.int x.toInt16.toInt32 :: st) μ) : κ pc ls (.int x :: st) μ := by
  obtain ⟨p, l, e, R, s, m, args, below, meth, c, D, dA, ad, cells, slots, Z, ⟨hx, hb, hml, ho, hw, hK, hj, hk, hfr, hlo, hce, hsl⟩, rfl⟩ := h
  intro H locs la hP hS hl
  exact lv_i2s hx hb hd rfl (k H locs la hP hS hl)
theorem m2_i2c (h : m2_B κ cc own nL d) {x : Int32} (hd : decode cc pc = .ok (.i2c, 1)) (k : κ (pc + 1) ls (.int (x.toUInt32 % 65536).toInt32 :: st) μ) : κ pc ls (.int x :: st) μ := by
  obtain ⟨p, l, e, R, s, m, args, below, meth, c, D, dA, ad, cells, slots, Z, ⟨hx, hb, hml, ho, hw, hK, hj, hk, hfr, hlo, hce, hsl⟩, rfl⟩ := h
  intro H locs la hP hS hl
  exact lv_i2c hx hb hd rfl (k H locs la hP hS hl)
theorem m2_lcmp (h : m2_B κ cc own nL d) {x y : Int64} (hd : decode cc pc = .ok (.lcmp, 1)) (k : κ (pc + 1) ls (.int (lg_cmp x y) :: st) μ) : κ pc ls (.long y :: .long x :: st) μ := by
  obtain ⟨p, l, e, R, s, m, args, below, meth, c, D, dA, ad, cells, slots, Z, ⟨hx, hb, hml, ho, hw, hK, hj, hk, hfr, hlo, hce, hsl⟩, rfl⟩ := h
  intro H locs la hP hS hl
  exact W.lcmp hx hb hd (k H locs la hP hS hl)
theorem m2_dup (h : m2_B κ cc own nL d) {v : Value} (hd : decode cc pc = .ok (.dup, 1)) (hv : v.category = 1) (k : κ (pc + 1) ls (v :: v :: st) μ) : κ pc ls (v :: st) μ := by
  obtain ⟨p, l, e, R, s, m, args, below, meth, c, D, dA, ad, cells, slots, Z, ⟨hx, hb, hml, ho, hw, hK, hj, hk, hfr, hlo, hce, hsl⟩, rfl⟩ := h
  intro H locs la hP hS hl
  exact lv_dup hx hb hd ((m2_rv_cat ad v).trans hv) (k H locs la hP hS hl)
theorem m2_pop (h : m2_B κ cc own nL d) {v : Value} (hd : decode cc pc = .ok (.pop, 1)) (hv : v.category = 1) (k : κ (pc + 1) ls (st) μ) : κ pc ls (v :: st) μ := by
  obtain ⟨p, l, e, R, s, m, args, below, meth, c, D, dA, ad, cells, slots, Z, ⟨hx, hb, hml, ho, hw, hK, hj, hk, hfr, hlo, hce, hsl⟩, rfl⟩ := h
  intro H locs la hP hS hl
  exact lv_pop hx hb hd ((m2_rv_cat ad v).trans hv) (k H locs la hP hS hl)
theorem m2_dup_x1 (h : m2_B κ cc own nL d) {v w : Value} (hd : decode cc pc = .ok (.dup_x1, 1)) (hv : v.category = 1) (hw0 : w.category = 1) (k : κ (pc + 1) ls (v :: w :: v :: st) μ) : κ pc ls (v :: w :: st) μ := by
  obtain ⟨p, l, e, R, s, m, args, below, meth, c, D, dA, ad, cells, slots, Z, ⟨hx, hb, hml, ho, hw, hK, hj, hk, hfr, hlo, hce, hsl⟩, rfl⟩ := h
  intro H locs la hP hS hl
  exact lv_dup_x1 hx hb hd ((m2_rv_cat ad v).trans hv) ((m2_rv_cat ad w).trans hw0) (k H locs la hP hS hl)
theorem m2_dup2 (h : m2_B κ cc own nL d) {v w : Value} (hd : decode cc pc = .ok (.dup2, 1)) (hv : v.category = 1) (hw0 : w.category = 1) (k : κ (pc + 1) ls (v :: w :: v :: w :: st) μ) : κ pc ls (v :: w :: st) μ := by
  obtain ⟨p, l, e, R, s, m, args, below, meth, c, D, dA, ad, cells, slots, Z, ⟨hx, hb, hml, ho, hw, hK, hj, hk, hfr, hlo, hce, hsl⟩, rfl⟩ := h
  intro H locs la hP hS hl
  exact lv_dup2_11 hx hb hd ((m2_rv_cat ad v).trans hv) ((m2_rv_cat ad w).trans hw0) (k H locs la hP hS hl)
theorem m2_iload_n (h : m2_B κ cc own nL d) {i : Fin 4} {x : Int32} (hd : decode cc pc = .ok (.iload_n i, 1)) (hv : ls[(i : Nat)]? = some (.int x)) (k : κ (pc + 1) ls (.int x :: st) μ) : κ pc ls st μ := by
  obtain ⟨p, l, e, R, s, m, args, below, meth, c, D, dA, ad, cells, slots, Z, ⟨hx, hb, hml, ho, hw, hK, hj, hk, hfr, hlo, hce, hsl⟩, rfl⟩ := h
  intro H locs la hP hS hl
  exact lv_iload_n hx hb hd rfl (hl.2.2.2 _ _ hv (by simp)) (k H locs la hP hS hl)
theorem m2_iload (h : m2_B κ cc own nL d) {i : Nat} {x : Int32} (hd : decode cc pc = .ok (.iload i, 2)) (hv : ls[i]? = some (.int x)) (k : κ (pc + 2) ls (.int x :: st) μ) : κ pc ls st μ := by
  obtain ⟨p, l, e, R, s, m, args, below, meth, c, D, dA, ad, cells, slots, Z, ⟨hx, hb, hml, ho, hw, hK, hj, hk, hfr, hlo, hce, hsl⟩, rfl⟩ := h
  intro H locs la hP hS hl
  exact lv_iload hx hb hd (hl.2.2.2 _ _ hv (by simp)) (k H locs la hP hS hl)
theorem m2_lload_n (h : m2_B κ cc own nL d) {i : Fin 4} {x : Int64} (hd : decode cc pc = .ok (.lload_n i, 1)) (hv : ls[(i : Nat)]? = some (.long x)) (k : κ (pc + 1) ls (.long x :: st) μ) : κ pc ls st μ := by
  obtain ⟨p, l, e, R, s, m, args, below, meth, c, D, dA, ad, cells, slots, Z, ⟨hx, hb, hml, ho, hw, hK, hj, hk, hfr, hlo, hce, hsl⟩, rfl⟩ := h
  intro H locs la hP hS hl
  exact lv_lload_n hx hb hd rfl (hl.2.2.2 _ _ hv (by simp)) (k H locs la hP hS hl)
theorem m2_lload (h : m2_B κ cc own nL d) {i : Nat} {x : Int64} (hd : decode cc pc = .ok (.lload i, 2)) (hv : ls[i]? = some (.long x)) (k : κ (pc + 2) ls (.long x :: st) μ) : κ pc ls st μ := by
  obtain ⟨p, l, e, R, s, m, args, below, meth, c, D, dA, ad, cells, slots, Z, ⟨hx, hb, hml, ho, hw, hK, hj, hk, hfr, hlo, hce, hsl⟩, rfl⟩ := h
  intro H locs la hP hS hl
  exact lv_lload hx hb hd (hl.2.2.2 _ _ hv (by simp)) (k H locs la hP hS hl)
theorem m2_aload_n (h : m2_B κ cc own nL d) {i : Fin 4} {x : Nat} (hd : decode cc pc = .ok (.aload_n i, 1)) (hv : ls[(i : Nat)]? = some (.ref x)) (k : κ (pc + 1) ls (.ref x :: st) μ) : κ pc ls st μ := by
  obtain ⟨p, l, e, R, s, m, args, below, meth, c, D, dA, ad, cells, slots, Z, ⟨hx, hb, hml, ho, hw, hK, hj, hk, hfr, hlo, hce, hsl⟩, rfl⟩ := h
  intro H locs la hP hS hl
  exact lv_aload_n hx hb hd rfl (hl.2.2.2 _ _ hv (by simp)) (k H locs la hP hS hl)
theorem m2_aload (h : m2_B κ cc own nL d) {i : Nat} {x : Nat} (hd : decode cc pc = .ok (.aload i, 2)) (hv : ls[i]? = some (.ref x)) (k : κ (pc + 2) ls (.ref x :: st) μ) : κ pc ls st μ := by
  obtain ⟨p, l, e, R, s, m, args, below, meth, c, D, dA, ad, cells, slots, Z, ⟨hx, hb, hml, ho, hw, hK, hj, hk, hfr, hlo, hce, hsl⟩, rfl⟩ := h
  intro H locs la hP hS hl
  exact lv_aload hx hb hd (hl.2.2.2 _ _ hv (by simp)) (k H locs la hP hS hl)
theorem m2_istore_n (h : m2_B κ cc own nL d) {i : Nat} {k4 : Fin 4} {x : Int32} (hd : decode cc pc = .ok (.istore_n k4, 1)) (hi : (k4 : Nat) = i) (hn : i < nL) (hs : m2_st ls i (.int x) = ls') (k : κ (pc + 1) ls' st μ) : κ pc ls (.int x :: st) μ := by
  obtain ⟨p, l, e, R, s, m, args, below, meth, c, D, dA, ad, cells, slots, Z, ⟨hx, hb, hml, ho, hw, hK, hj, hk, hfr, hlo, hce, hsl⟩, rfl⟩ := h
  intro H locs la hP hS hl
  exact lv_istore_n hx hb hd hi hl.has hn rfl (fun la' h' => k H locs la' hP hS (hs ▸ m2_lv.store (v := .int x) hl h'))
theorem m2_istore (h : m2_B κ cc own nL d) {i : Nat} {x : Int32} (hd : decode cc pc = .ok (.istore i, 2)) (hn : i < nL) (hs : m2_st ls i (.int x) = ls') (k : κ (pc + 2) ls' st μ) : κ pc ls (.int x :: st) μ := by
  obtain ⟨p, l, e, R, s, m, args, below, meth, c, D, dA, ad, cells, slots, Z, ⟨hx, hb, hml, ho, hw, hK, hj, hk, hfr, hlo, hce, hsl⟩, rfl⟩ := h
  intro H locs la hP hS hl
  exact lv_istore hx hb hd hl.has hn rfl (fun la' h' => k H locs la' hP hS (hs ▸ m2_lv.store (v := .int x) hl h'))
theorem m2_lstore_n (h : m2_B κ cc own nL d) {i : Nat} {k4 : Fin 4} {x : Int64} (hd : decode cc pc = .ok (.lstore_n k4, 1)) (hi : (k4 : Nat) = i) (hn : i + 1 < nL) (hs : m2_st2 ls i (.long x) = ls') (k : κ (pc + 1) ls' st μ) : κ pc ls (.long x :: st) μ := by
  obtain ⟨p, l, e, R, s, m, args, below, meth, c, D, dA, ad, cells, slots, Z, ⟨hx, hb, hml, ho, hw, hK, hj, hk, hfr, hlo, hce, hsl⟩, rfl⟩ := h
  intro H locs la hP hS hl
  exact lv_lstore_n hx hb hd hi hl.has hn rfl (fun la' h' => k H locs la' hP hS (hs ▸ m2_lv.store2 (v := .long x) hl h'))
theorem m2_lstore (h : m2_B κ cc own nL d) {i : Nat} {x : Int64} (hd : decode cc pc = .ok (.lstore i, 2)) (hn : i + 1 < nL) (hs : m2_st2 ls i (.long x) = ls') (k : κ (pc + 2) ls' st μ) : κ pc ls (.long x :: st) μ := by
  obtain ⟨p, l, e, R, s, m, args, below, meth, c, D, dA, ad, cells, slots, Z, ⟨hx, hb, hml, ho, hw, hK, hj, hk, hfr, hlo, hce, hsl⟩, rfl⟩ := h
  intro H locs la hP hS hl
  exact lv_lstore hx hb hd hl.has hn rfl (fun la' h' => k H locs la' hP hS (hs ▸ m2_lv.store2 (v := .long x) hl h'))
theorem m2_astore_n (h : m2_B κ cc own nL d) {i : Nat} {k4 : Fin 4} {x : Nat} (hd : decode cc pc = .ok (.astore_n k4, 1)) (hi : (k4 : Nat) = i) (hn : i < nL) (hs : m2_st ls i (.ref x) = ls') (k : κ (pc + 1) ls' st μ) : κ pc ls (.ref x :: st) μ := by
  obtain ⟨p, l, e, R, s, m, args, below, meth, c, D, dA, ad, cells, slots, Z, ⟨hx, hb, hml, ho, hw, hK, hj, hk, hfr, hlo, hce, hsl⟩, rfl⟩ := h
  intro H locs la hP hS hl
  exact lv_astore_n hx hb hd hi hl.has hn rfl (fun la' h' => k H locs la' hP hS (hs ▸ m2_lv.store (v := .ref x) hl h'))
theorem m2_astore (h : m2_B κ cc own nL d) {i : Nat} {x : Nat} (hd : decode cc pc = .ok (.astore i, 2)) (hn : i < nL) (hs : m2_st ls i (.ref x) = ls') (k : κ (pc + 2) ls' st μ) : κ pc ls (.ref x :: st) μ := by
  obtain ⟨p, l, e, R, s, m, args, below, meth, c, D, dA, ad, cells, slots, Z, ⟨hx, hb, hml, ho, hw, hK, hj, hk, hfr, hlo, hce, hsl⟩, rfl⟩ := h
  intro H locs la hP hS hl
  exact lv_astore hx hb hd hl.has hn rfl (fun la' h' => k H locs la' hP hS (hs ▸ m2_lv.store (v := .ref x) hl h'))
theorem m2_iinc (h : m2_B κ cc own nL d) {i : Nat} {n : Int} {x v : Int32} (hd : decode cc pc = .ok (.iinc i n, 3)) (hv : ls[i]? = some (.int x)) (hn : i < nL) (hx0 : x + Int32.ofInt n = v) (hs : m2_st ls i (.int v) = ls') (k : κ (pc + 3) ls' st μ) : κ pc ls st μ := by
  obtain ⟨p, l, e, R, s, m, args, below, meth, c, D, dA, ad, cells, slots, Z, ⟨hx, hb, hml, ho, hw, hK, hj, hk, hfr, hlo, hce, hsl⟩, rfl⟩ := h
  intro H locs la hP hS hl
  obtain ⟨q, hq⟩ := List.getElem?_of_mem (m2_pairs_mem (ad := ad) hv (by simp))
  exact lv_iinc (k := q) hx hb hd hl.has hq hx0 hn rfl (fun la' h' => k H locs la' hP hS (hs ▸ m2_lv.store (v := .int v) hl h'))
theorem m2_if_eq (h : m2_B κ cc own nL d) {x : Int32} {off : Int} {tgt : Nat} (hd : decode cc pc = .ok (.ifCond .eq off, 3)) (ht : (pc : Int) + off = (tgt : Int)) (kt : x = 0 → κ tgt ls st μ) (kf : ¬ x = 0 → κ (pc + 3) ls st μ) : κ pc ls (.int x :: st) μ := by
  obtain ⟨p, l, e, R, s, m, args, below, meth, c, D, dA, ad, cells, slots, Z, ⟨hx, hb, hml, ho, hw, hK, hj, hk, hfr, hlo, hce, hsl⟩, rfl⟩ := h
  intro H locs la hP hS hl
  exact lv_if_eq hx hb hd ht (fun q => kt q H locs la hP hS hl) (fun q => kf q H locs la hP hS hl)
theorem m2_if_ne (h : m2_B κ cc own nL d) {x : Int32} {off : Int} {tgt : Nat} (hd : decode cc pc = .ok (.ifCond .ne off, 3)) (ht : (pc : Int) + off = (tgt : Int)) (kt : ¬ x = 0 → κ tgt ls st μ) (kf : x = 0 → κ (pc + 3) ls st μ) : κ pc ls (.int x :: st) μ := by
  obtain ⟨p, l, e, R, s, m, args, below, meth, c, D, dA, ad, cells, slots, Z, ⟨hx, hb, hml, ho, hw, hK, hj, hk, hfr, hlo, hce, hsl⟩, rfl⟩ := h
  intro H locs la hP hS hl
  exact lv_if_ne hx hb hd ht (fun q => kt q H locs la hP hS hl) (fun q => kf q H locs la hP hS hl)
theorem m2_if_lt (h : m2_B κ cc own nL d) {x : Int32} {off : Int} {tgt : Nat} (hd : decode cc pc = .ok (.ifCond .lt off, 3)) (ht : (pc : Int) + off = (tgt : Int)) (kt : x < 0 → κ tgt ls st μ) (kf : ¬ x < 0 → κ (pc + 3) ls st μ) : κ pc ls (.int x :: st) μ := by
  obtain ⟨p, l, e, R, s, m, args, below, meth, c, D, dA, ad, cells, slots, Z, ⟨hx, hb, hml, ho, hw, hK, hj, hk, hfr, hlo, hce, hsl⟩, rfl⟩ := h
  intro H locs la hP hS hl
  exact lv_if_lt hx hb hd ht (fun q => kt q H locs la hP hS hl) (fun q => kf q H locs la hP hS hl)
theorem m2_if_ge (h : m2_B κ cc own nL d) {x : Int32} {off : Int} {tgt : Nat} (hd : decode cc pc = .ok (.ifCond .ge off, 3)) (ht : (pc : Int) + off = (tgt : Int)) (kt : 0 ≤ x → κ tgt ls st μ) (kf : ¬ 0 ≤ x → κ (pc + 3) ls st μ) : κ pc ls (.int x :: st) μ := by
  obtain ⟨p, l, e, R, s, m, args, below, meth, c, D, dA, ad, cells, slots, Z, ⟨hx, hb, hml, ho, hw, hK, hj, hk, hfr, hlo, hce, hsl⟩, rfl⟩ := h
  intro H locs la hP hS hl
  exact lv_if_ge hx hb hd ht (fun q => kt q H locs la hP hS hl) (fun q => kf q H locs la hP hS hl)
theorem m2_if_gt (h : m2_B κ cc own nL d) {x : Int32} {off : Int} {tgt : Nat} (hd : decode cc pc = .ok (.ifCond .gt off, 3)) (ht : (pc : Int) + off = (tgt : Int)) (kt : 0 < x → κ tgt ls st μ) (kf : ¬ 0 < x → κ (pc + 3) ls st μ) : κ pc ls (.int x :: st) μ := by
  obtain ⟨p, l, e, R, s, m, args, below, meth, c, D, dA, ad, cells, slots, Z, ⟨hx, hb, hml, ho, hw, hK, hj, hk, hfr, hlo, hce, hsl⟩, rfl⟩ := h
  intro H locs la hP hS hl
  exact lv_if_gt hx hb hd ht (fun q => kt q H locs la hP hS hl) (fun q => kf q H locs la hP hS hl)
theorem m2_if_le (h : m2_B κ cc own nL d) {x : Int32} {off : Int} {tgt : Nat} (hd : decode cc pc = .ok (.ifCond .le off, 3)) (ht : (pc : Int) + off = (tgt : Int)) (kt : x ≤ 0 → κ tgt ls st μ) (kf : ¬ x ≤ 0 → κ (pc + 3) ls st μ) : κ pc ls (.int x :: st) μ := by
  obtain ⟨p, l, e, R, s, m, args, below, meth, c, D, dA, ad, cells, slots, Z, ⟨hx, hb, hml, ho, hw, hK, hj, hk, hfr, hlo, hce, hsl⟩, rfl⟩ := h
  intro H locs la hP hS hl
  exact lv_if_le hx hb hd ht (fun q => kt q H locs la hP hS hl) (fun q => kf q H locs la hP hS hl)
theorem m2_icmp_eq (h : m2_B κ cc own nL d) {x y : Int32} {off : Int} {tgt : Nat} (hd : decode cc pc = .ok (.if_icmp .eq off, 3)) (ht : (pc : Int) + off = (tgt : Int)) (kt : x = y → κ tgt ls st μ) (kf : ¬ x = y → κ (pc + 3) ls st μ) : κ pc ls (.int y :: .int x :: st) μ := by
  obtain ⟨p, l, e, R, s, m, args, below, meth, c, D, dA, ad, cells, slots, Z, ⟨hx, hb, hml, ho, hw, hK, hj, hk, hfr, hlo, hce, hsl⟩, rfl⟩ := h
  intro H locs la hP hS hl
  exact lv_icmp_eq hx hb hd ht (fun q => kt q H locs la hP hS hl) (fun q => kf q H locs la hP hS hl)
theorem m2_icmp_ne (h : m2_B κ cc own nL d) {x y : Int32} {off : Int} {tgt : Nat} (hd : decode cc pc = .ok (.if_icmp .ne off, 3)) (ht : (pc : Int) + off = (tgt : Int)) (kt : ¬ x = y → κ tgt ls st μ) (kf : x = y → κ (pc + 3) ls st μ) : κ pc ls (.int y :: .int x :: st) μ := by
  obtain ⟨p, l, e, R, s, m, args, below, meth, c, D, dA, ad, cells, slots, Z, ⟨hx, hb, hml, ho, hw, hK, hj, hk, hfr, hlo, hce, hsl⟩, rfl⟩ := h
  intro H locs la hP hS hl
  exact lv_icmp_ne hx hb hd ht (fun q => kt q H locs la hP hS hl) (fun q => kf q H locs la hP hS hl)
theorem m2_icmp_lt (h : m2_B κ cc own nL d) {x y : Int32} {off : Int} {tgt : Nat} (hd : decode cc pc = .ok (.if_icmp .lt off, 3)) (ht : (pc : Int) + off = (tgt : Int)) (kt : x < y → κ tgt ls st μ) (kf : ¬ x < y → κ (pc + 3) ls st μ) : κ pc ls (.int y :: .int x :: st) μ := by
  obtain ⟨p, l, e, R, s, m, args, below, meth, c, D, dA, ad, cells, slots, Z, ⟨hx, hb, hml, ho, hw, hK, hj, hk, hfr, hlo, hce, hsl⟩, rfl⟩ := h
  intro H locs la hP hS hl
  exact lv_icmp_lt hx hb hd ht (fun q => kt q H locs la hP hS hl) (fun q => kf q H locs la hP hS hl)
theorem m2_icmp_ge (h : m2_B κ cc own nL d) {x y : Int32} {off : Int} {tgt : Nat} (hd : decode cc pc = .ok (.if_icmp .ge off, 3)) (ht : (pc : Int) + off = (tgt : Int)) (kt : y ≤ x → κ tgt ls st μ) (kf : ¬ y ≤ x → κ (pc + 3) ls st μ) : κ pc ls (.int y :: .int x :: st) μ := by
  obtain ⟨p, l, e, R, s, m, args, below, meth, c, D, dA, ad, cells, slots, Z, ⟨hx, hb, hml, ho, hw, hK, hj, hk, hfr, hlo, hce, hsl⟩, rfl⟩ := h
  intro H locs la hP hS hl
  exact lv_icmp_ge hx hb hd ht (fun q => kt q H locs la hP hS hl) (fun q => kf q H locs la hP hS hl)
theorem m2_icmp_gt (h : m2_B κ cc own nL d) {x y : Int32} {off : Int} {tgt : Nat} (hd : decode cc pc = .ok (.if_icmp .gt off, 3)) (ht : (pc : Int) + off = (tgt : Int)) (kt : y < x → κ tgt ls st μ) (kf : ¬ y < x → κ (pc + 3) ls st μ) : κ pc ls (.int y :: .int x :: st) μ := by
  obtain ⟨p, l, e, R, s, m, args, below, meth, c, D, dA, ad, cells, slots, Z, ⟨hx, hb, hml, ho, hw, hK, hj, hk, hfr, hlo, hce, hsl⟩, rfl⟩ := h
  intro H locs la hP hS hl
  exact lv_icmp_gt hx hb hd ht (fun q => kt q H locs la hP hS hl) (fun q => kf q H locs la hP hS hl)
theorem m2_icmp_le (h : m2_B κ cc own nL d) {x y : Int32} {off : Int} {tgt : Nat} (hd : decode cc pc = .ok (.if_icmp .le off, 3)) (ht : (pc : Int) + off = (tgt : Int)) (kt : x ≤ y → κ tgt ls st μ) (kf : ¬ x ≤ y → κ (pc + 3) ls st μ) : κ pc ls (.int y :: .int x :: st) μ := by
  obtain ⟨p, l, e, R, s, m, args, below, meth, c, D, dA, ad, cells, slots, Z, ⟨hx, hb, hml, ho, hw, hK, hj, hk, hfr, hlo, hce, hsl⟩, rfl⟩ := h
  intro H locs la hP hS hl
  exact lv_icmp_le hx hb hd ht (fun q => kt q H locs la hP hS hl) (fun q => kf q H locs la hP hS hl)
theorem m2_goto (h : m2_B κ cc own nL d) {off : Int} {tgt : Nat} (hd : decode cc pc = .ok (.goto off, 3)) (ht : (pc : Int) + off = (tgt : Int)) (k : κ tgt ls st μ) : κ pc ls st μ := by
  obtain ⟨p, l, e, R, s, m, args, below, meth, c, D, dA, ad, cells, slots, Z, ⟨hx, hb, hml, ho, hw, hK, hj, hk, hfr, hlo, hce, hsl⟩, rfl⟩ := h
  intro H locs la hP hS hl
  exact lv_goto hx hb hd ht (k H locs la hP hS hl)
theorem m2_tableIn (h : m2_B κ cc own nL d) {dflt lo hi : Int} {offs : Array Int} {len : Nat} {x : Int32} {off : Int} {tgt : Nat} (hd : decode cc pc = .ok (.tableswitch dflt lo hi offs, len)) (h1 : ¬ x.toInt < lo) (h2 : ¬ hi < x.toInt) (ho1 : offs[(x.toInt - lo).toNat]? = some off) (ht : (pc : Int) + off = (tgt : Int)) (k : κ tgt ls st μ) : κ pc ls (.int x :: st) μ := by
  obtain ⟨p, l, e, R, s, m, args, below, meth, c, D, dA, ad, cells, slots, Z, ⟨hx, hb, hml, ho, hw, hK, hj, hk, hfr, hlo, hce, hsl⟩, rfl⟩ := h
  intro H locs la hP hS hl
  exact lv_tableIn hx hb hd h1 h2 ho1 ht (k H locs la hP hS hl)
theorem m2_tableOut (h : m2_B κ cc own nL d) {dflt lo hi : Int} {offs : Array Int} {len : Nat} {x : Int32} {tgt : Nat} (hd : decode cc pc = .ok (.tableswitch dflt lo hi offs, len)) (h1 : x.toInt < lo ∨ hi < x.toInt) (ht : (pc : Int) + dflt = (tgt : Int)) (k : κ tgt ls st μ) : κ pc ls (.int x :: st) μ := by
  obtain ⟨p, l, e, R, s, m, args, below, meth, c, D, dA, ad, cells, slots, Z, ⟨hx, hb, hml, ho, hw, hK, hj, hk, hfr, hlo, hce, hsl⟩, rfl⟩ := h
  intro H locs la hP hS hl
  exact lv_tableOut hx hb hd h1 ht (k H locs la hP hS hl)
theorem m2_lookup (h : m2_B κ cc own nL d) {dflt : Int} {ps : Array (Int × Int)} {len : Nat} {x : Int32} {off : Int} {tgt : Nat} (hd : decode cc pc = .ok (.lookupswitch dflt ps, len)) (hp : (ps.toList.zip (ps.toList.drop 1)).all (fun (a, next) => a.1 < next.1) = true) (ho1 : Op.lookupswitch.offset ps.toList dflt x.toInt = off) (ht : (pc : Int) + off = (tgt : Int)) (k : κ tgt ls st μ) : κ pc ls (.int x :: st) μ := by
  obtain ⟨p, l, e, R, s, m, args, below, meth, c, D, dA, ad, cells, slots, Z, ⟨hx, hb, hml, ho, hw, hK, hj, hk, hfr, hlo, hce, hsl⟩, rfl⟩ := h
  intro H locs la hP hS hl
  exact lv_lookup hx hb hd hp ho1 ht (k H locs la hP hS hl)
theorem m2_ldc (h : m2_B κ cc own nL d) {i : Nat} {v : Int32} (hc : Jvm.Cond.constant own i v ∈ m2_WS) (hd : decode cc pc = .ok (.ldc i, 2)) (k : κ (pc + 2) ls (.int v :: st) μ) : κ pc ls st μ := by
  obtain ⟨p, l, e, R, s, m, args, below, meth, c, D, dA, ad, cells, slots, Z, ⟨hx, hb, hml, ho, hw, hK, hj, hk, hfr, hlo, hce, hsl⟩, rfl⟩ := h
  intro H locs la hP hS hl
  exact lv_ldc hx hb ho (hw _ hc) hd (k H locs la hP hS hl)
theorem m2_ldcw (h : m2_B κ cc own nL d) {i : Nat} {v : Int32} (hc : Jvm.Cond.constant own i v ∈ m2_WS) (hd : decode cc pc = .ok (.ldc_w i, 3)) (k : κ (pc + 3) ls (.int v :: st) μ) : κ pc ls st μ := by
  obtain ⟨p, l, e, R, s, m, args, below, meth, c, D, dA, ad, cells, slots, Z, ⟨hx, hb, hml, ho, hw, hK, hj, hk, hfr, hlo, hce, hsl⟩, rfl⟩ := h
  intro H locs la hP hS hl
  exact lv_ldcw hx hb ho (hw _ hc) hd (k H locs la hP hS hl)
theorem m2_ldc2 (h : m2_B κ cc own nL d) {i : Nat} {v : Int64} (hc : Jvm.Cond.constantLong own i v ∈ m2_WS) (hd : decode cc pc = .ok (.ldc2_w i, 3)) (k : κ (pc + 3) ls (.long v :: st) μ) : κ pc ls st μ := by
  obtain ⟨p, l, e, R, s, m, args, below, meth, c, D, dA, ad, cells, slots, Z, ⟨hx, hb, hml, ho, hw, hK, hj, hk, hfr, hlo, hce, hsl⟩, rfl⟩ := h
  intro H locs la hP hS hl
  exact lv_ldc2 hx hb ho (hw _ hc) hd (k H locs la hP hS hl)
/-- what the tables say of a field that an instruction names -/
def m2_FL (own : String) (idx ci kf : Nat) (ty : FieldType) (fin : Bool) : Prop := ∃ (C : String) (T : u_T) (N : Nat) (ty0 : Nat → FieldType), vwCl[ci]? = some (C, T, N) ∧ kf < N ∧ Cond.fieldLink own idx (T kf).1 (T kf).2.1 (T kf).2.2.1 ∈ m2_WS ∧ (∀ w ∈ u_ws C T N, w ∈ m2_WS) ∧ (∀ k, k < N → parseFieldDescriptor (T k).2.2.1 = some (ty0 k)) ∧ (∀ a, a < N → ∀ b, b < N → a ≠ b → (T a).2.1 ≠ (T b).2.1) ∧ (T kf).2.2.2 = fin ∧ ty0 kf = ty
theorem m2_getI (h : m2_B κ cc own nL d) {idx ci kf c0 : Nat} {ty : FieldType} {fin : Bool} {ks : List Nat} (hd : decode cc pc = .ok (.getfield idx, 3)) (hF : m2_FL own idx ci kf ty fin) (hs : m2_sh c0 = some (.inr (ci, ks))) (hk0 : ks[kf]? = some 0) (k : κ (pc + 3) ls (.int (μ.1 c0 kf) :: st) μ) : κ pc ls (.ref c0 :: st) μ := by
  obtain ⟨p, l, e, R, s, m, args, below, meth, c, D, dA, ad, cells, slots, Z, ⟨hx, hb, hml, ho, hw, hK, hj, hk, hfr, hlo, hce, hsl⟩, rfl⟩ := h
  intro H locs la hP hS hl
  obtain ⟨C, T, N, ty0, f1, f2, f3, f4, f5, f6, f7, f8⟩ := hF
  refine va_get hx hb hw f4 ho hK.1 hP c0 (by rw [m2_ws_get (m2_sh_lt hs), m2_ce_obj hs]) f1 kf f2 (hw _ f3) (fun _ q => q) (v := m2_rv ad (.int (μ.1 c0 kf))) ?_ hd (k H locs la hP hS hl)
  rw [m2_fs_get hk0]; rfl
theorem m2_getR (h : m2_B κ cc own nL d) {idx ci kf c0 : Nat} {ty : FieldType} {fin : Bool} {ks : List Nat} (hd : decode cc pc = .ok (.getfield idx, 3)) (hF : m2_FL own idx ci kf ty fin) (hs : m2_sh c0 = some (.inr (ci, ks))) {c1 : Nat} (hk0 : ks[kf]? = some (c1 + 2)) (k : κ (pc + 3) ls (.ref c1 :: st) μ) : κ pc ls (.ref c0 :: st) μ := by
  obtain ⟨p, l, e, R, s, m, args, below, meth, c, D, dA, ad, cells, slots, Z, ⟨hx, hb, hml, ho, hw, hK, hj, hk, hfr, hlo, hce, hsl⟩, rfl⟩ := h
  intro H locs la hP hS hl
  obtain ⟨C, T, N, ty0, f1, f2, f3, f4, f5, f6, f7, f8⟩ := hF
  refine va_get hx hb hw f4 ho hK.1 hP c0 (by rw [m2_ws_get (m2_sh_lt hs), m2_ce_obj hs]) f1 kf f2 (hw _ f3) (fun _ q => q) (v := m2_rv ad (.ref c1)) ?_ hd (k H locs la hP hS hl)
  rw [m2_fs_get hk0]; rfl
theorem m2_getD (h : m2_B κ cc own nL d) {idx ci kf c0 : Nat} {ty : FieldType} {fin : Bool} {ks : List Nat} (hd : decode cc pc = .ok (.getfield idx, 3)) (hF : m2_FL own idx ci kf ty fin) (hs : m2_sh c0 = some (.inr (ci, ks))) {c1 : Nat} (hk0 : ks[kf]? = some 1) (hc1 : c1 < 2 ^ 31) (hv : μ.1 c0 kf = nI c1) (k : κ (pc + 3) ls (.ref c1 :: st) μ) : κ pc ls (.ref c0 :: st) μ := by
  obtain ⟨p, l, e, R, s, m, args, below, meth, c, D, dA, ad, cells, slots, Z, ⟨hx, hb, hml, ho, hw, hK, hj, hk, hfr, hlo, hce, hsl⟩, rfl⟩ := h
  intro H locs la hP hS hl
  obtain ⟨C, T, N, ty0, f1, f2, f3, f4, f5, f6, f7, f8⟩ := hF
  refine va_get hx hb hw f4 ho hK.1 hP c0 (by rw [m2_ws_get (m2_sh_lt hs), m2_ce_obj hs]) f1 kf f2 (hw _ f3) (fun _ q => q) (v := m2_rv ad (.ref c1)) ?_ hd (k H locs la hP hS hl)
  rw [m2_fs_get hk0]
  show some (if μ.1 c0 kf < 0 then Value.null else Value.ref (ad (μ.1 c0 kf).toNatClampNeg)) = some (Value.ref (ad c1))
  rw [hv, if_neg (nI_pos hc1), nI_clamp hc1]
theorem m2_putI (h : m2_B κ cc own nL d) {idx ci kf c0 : Nat} {ks : List Nat} {x : Int32} (hd : decode cc pc = .ok (.putfield idx, 3)) (hF : m2_FL own idx ci kf .int false) (hs : m2_sh c0 = some (.inr (ci, ks))) (hk0 : ks[kf]? = some 0) (k : κ (pc + 3) ls st (m2_si μ c0 kf (x))) : κ pc ls (.int x :: .ref c0 :: st) μ := by
  obtain ⟨p, l, e, R, s, m, args, below, meth, c, D, dA, ad, cells, slots, Z, ⟨hx, hb, hml, ho, hw, hK, hj, hk, hfr, hlo, hce, hsl⟩, rfl⟩ := h
  intro H locs la hP hS hl
  obtain ⟨C, T, N, ty0, f1, f2, f3, f4, f5, f6, f7, f8⟩ := hF
  have hgo := m2_ws_get (dA := dA) (ad := ad) (μ := μ) (m2_sh_lt hs)
  rw [m2_ce_obj hs] at hgo
  refine va_put hx hb hw f4 ty0 f5 f6 ho hK.1 hP (m2_D hj) hS c0 hgo f1 kf f2 (hw _ f3) (fun _ q => q) f7 (v := m2_rv ad (.int x)) (ty := .int) (by rw [f5 kf f2, f8]) (by rfl) (by rfl) (m2_fs_len hk0) hd (fun H1 locs1 hP1 hD1 hS1 => ?_)
  have e0 : m2_rv ad (.int x) = m2_fv ad (x) 0 := rfl
  rw [e0, m2_set_obj hs hk0] at hP1
  exact k H1 locs1 la hP1 hS1 hl
theorem m2_putZ (h : m2_B κ cc own nL d) {idx ci kf c0 : Nat} {ks : List Nat} {x : Int32} (h01 : x = 0 ∨ x = 1) (hd : decode cc pc = .ok (.putfield idx, 3)) (hF : m2_FL own idx ci kf .boolean false) (hs : m2_sh c0 = some (.inr (ci, ks))) (hk0 : ks[kf]? = some 0) (k : κ (pc + 3) ls st (m2_si μ c0 kf (x))) : κ pc ls (.int x :: .ref c0 :: st) μ := by
  obtain ⟨p, l, e, R, s, m, args, below, meth, c, D, dA, ad, cells, slots, Z, ⟨hx, hb, hml, ho, hw, hK, hj, hk, hfr, hlo, hce, hsl⟩, rfl⟩ := h
  intro H locs la hP hS hl
  obtain ⟨C, T, N, ty0, f1, f2, f3, f4, f5, f6, f7, f8⟩ := hF
  have hgo := m2_ws_get (dA := dA) (ad := ad) (μ := μ) (m2_sh_lt hs)
  rw [m2_ce_obj hs] at hgo
  refine va_put hx hb hw f4 ty0 f5 f6 ho hK.1 hP (m2_D hj) hS c0 hgo f1 kf f2 (hw _ f3) (fun _ q => q) f7 (v := m2_rv ad (.int x)) (ty := .boolean) (by rw [f5 kf f2, f8]) (by rcases h01 with rfl | rfl <;> rfl) (by rcases h01 with rfl | rfl <;> rfl) (m2_fs_len hk0) hd (fun H1 locs1 hP1 hD1 hS1 => ?_)
  have e0 : m2_rv ad (.int x) = m2_fv ad (x) 0 := rfl
  rw [e0, m2_set_obj hs hk0] at hP1
  exact k H1 locs1 la hP1 hS1 hl
theorem m2_putD (h : m2_B κ cc own nL d) {idx ci kf c0 : Nat} {ks : List Nat} {c1 : Nat} (hc1 : c1 < 2 ^ 31) (hd : decode cc pc = .ok (.putfield idx, 3)) (hF : m2_FL own idx ci kf (.array .byte) false) (hs : m2_sh c0 = some (.inr (ci, ks))) (hk0 : ks[kf]? = some 1) (k : κ (pc + 3) ls st (m2_si μ c0 kf (nI c1))) : κ pc ls (.ref c1 :: .ref c0 :: st) μ := by
  obtain ⟨p, l, e, R, s, m, args, below, meth, c, D, dA, ad, cells, slots, Z, ⟨hx, hb, hml, ho, hw, hK, hj, hk, hfr, hlo, hce, hsl⟩, rfl⟩ := h
  intro H locs la hP hS hl
  obtain ⟨C, T, N, ty0, f1, f2, f3, f4, f5, f6, f7, f8⟩ := hF
  have hgo := m2_ws_get (dA := dA) (ad := ad) (μ := μ) (m2_sh_lt hs)
  rw [m2_ce_obj hs] at hgo
  refine va_put hx hb hw f4 ty0 f5 f6 ho hK.1 hP (m2_D hj) hS c0 hgo f1 kf f2 (hw _ f3) (fun _ q => q) f7 (v := m2_rv ad (.ref c1)) (ty := (.array .byte)) (by rw [f5 kf f2, f8]) (by rfl) (by rfl) (m2_fs_len hk0) hd (fun H1 locs1 hP1 hD1 hS1 => ?_)
  have e0 : m2_rv ad (.ref c1) = m2_fv ad (nI c1) 1 := (by show _ = if nI c1 < 0 then _ else _; rw [if_neg (nI_pos hc1), nI_clamp hc1]; rfl)
  rw [e0, m2_set_obj hs hk0] at hP1
  exact k H1 locs1 la hP1 hS1 hl
theorem m2_iald (h : m2_B κ cc own nL d) {c0 n : Nat} {rs : List Nat} {i : Int32} (hd : decode cc pc = .ok (.iaload, 1)) (hs : m2_sh c0 = some (.inl (2, n, rs))) (hin : vp_in i n) (k : κ (pc + 1) ls (.int (μ.1 c0 i.toNatClampNeg) :: st) μ) : κ pc ls (.int i :: .ref c0 :: st) μ := by
  obtain ⟨p, l, e, R, s, m, args, below, meth, c, D, dA, ad, cells, slots, Z, ⟨hx, hb, hml, ho, hw, hK, hj, hk, hfr, hlo, hce, hsl⟩, rfl⟩ := h
  intro H locs la hP hS hl
  exact va_iald hx hb hK.1 hP c0 2 (by rw [m2_ws_get (m2_sh_lt hs), m2_ce_arr hs (by decide) (by decide)]) rfl hin hd (k H locs la hP hS hl)
theorem m2_bald (h : m2_B κ cc own nL d) {c0 n : Nat} {rs : List Nat} {i : Int32} (hd : decode cc pc = .ok (.baload, 1)) (hs : m2_sh c0 = some (.inl (0, n, rs))) (hin : vp_in i n) (k : κ (pc + 1) ls (.int (μ.1 c0 i.toNatClampNeg) :: st) μ) : κ pc ls (.int i :: .ref c0 :: st) μ := by
  obtain ⟨p, l, e, R, s, m, args, below, meth, c, D, dA, ad, cells, slots, Z, ⟨hx, hb, hml, ho, hw, hK, hj, hk, hfr, hlo, hce, hsl⟩, rfl⟩ := h
  intro H locs la hP hS hl
  exact va_bald hx hb hK.1 hP c0 0 (by rw [m2_ws_get (m2_sh_lt hs), m2_ce_arr hs (by decide) (by decide)]) rfl hin hd (k H locs la hP hS hl)
theorem m2_zald (h : m2_B κ cc own nL d) {c0 n : Nat} {rs : List Nat} {i : Int32} (hd : decode cc pc = .ok (.baload, 1)) (hs : m2_sh c0 = some (.inl (4, n, rs))) (hin : vp_in i n) (k : κ (pc + 1) ls (.int (μ.1 c0 i.toNatClampNeg) :: st) μ) : κ pc ls (.int i :: .ref c0 :: st) μ := by
  obtain ⟨p, l, e, R, s, m, args, below, meth, c, D, dA, ad, cells, slots, Z, ⟨hx, hb, hml, ho, hw, hK, hj, hk, hfr, hlo, hce, hsl⟩, rfl⟩ := h
  intro H locs la hP hS hl
  exact va_zald hx hb hK.1 hP c0 4 (by rw [m2_ws_get (m2_sh_lt hs), m2_ce_arr hs (by decide) (by decide)]) rfl hin hd (k H locs la hP hS hl)
theorem m2_cald (h : m2_B κ cc own nL d) {c0 n : Nat} {rs : List Nat} {i : Int32} (hd : decode cc pc = .ok (.caload, 1)) (hs : m2_sh c0 = some (.inl (1, n, rs))) (hin : vp_in i n) (k : κ (pc + 1) ls (.int (μ.1 c0 i.toNatClampNeg) :: st) μ) : κ pc ls (.int i :: .ref c0 :: st) μ := by
  obtain ⟨p, l, e, R, s, m, args, below, meth, c, D, dA, ad, cells, slots, Z, ⟨hx, hb, hml, ho, hw, hK, hj, hk, hfr, hlo, hce, hsl⟩, rfl⟩ := h
  intro H locs la hP hS hl
  exact va_cald hx hb hK.1 hP c0 1 (by rw [m2_ws_get (m2_sh_lt hs), m2_ce_arr hs (by decide) (by decide)]) rfl hin hd (k H locs la hP hS hl)
theorem m2_lald (h : m2_B κ cc own nL d) {c0 n : Nat} {rs : List Nat} {i : Int32} (hd : decode cc pc = .ok (.laload, 1)) (hs : m2_sh c0 = some (.inl (3, n, rs))) (hin : vp_in i n) (k : κ (pc + 1) ls (.long (μ.2 c0 i.toNatClampNeg) :: st) μ) : κ pc ls (.int i :: .ref c0 :: st) μ := by
  obtain ⟨p, l, e, R, s, m, args, below, meth, c, D, dA, ad, cells, slots, Z, ⟨hx, hb, hml, ho, hw, hK, hj, hk, hfr, hlo, hce, hsl⟩, rfl⟩ := h
  intro H locs la hP hS hl
  exact va_lald hx hb hK.1 hP c0 3 (by rw [m2_ws_get (m2_sh_lt hs), m2_ce_arl hs]) rfl hin hd (k H locs la hP hS hl)
theorem m2_iast (h : m2_B κ cc own nL d) {c0 n : Nat} {rs : List Nat} {i x : Int32} (hd : decode cc pc = .ok (.iastore, 1)) (hs : m2_sh c0 = some (.inl (2, n, rs))) (hin : vp_in i n) (k : κ (pc + 1) ls st (m2_si μ c0 i.toNatClampNeg (x))) : κ pc ls (.int x :: .int i :: .ref c0 :: st) μ := by
  obtain ⟨p, l, e, R, s, m, args, below, meth, c, D, dA, ad, cells, slots, Z, ⟨hx, hb, hml, ho, hw, hK, hj, hk, hfr, hlo, hce, hsl⟩, rfl⟩ := h
  intro H locs la hP hS hl
  refine va_iast hx hb hK.1 hP (m2_D hj) hS c0 2 (by rw [m2_ws_get (m2_sh_lt hs), m2_ce_arr hs (by decide) (by decide)]) rfl hin hd (fun H1 locs1 hP1 hD1 hS1 => ?_)
  rw [m2_set_arr hs (by decide) (by decide)] at hP1
  exact k H1 locs1 la hP1 hS1 hl
theorem m2_bast (h : m2_B κ cc own nL d) {c0 n : Nat} {rs : List Nat} {i x : Int32} (hd : decode cc pc = .ok (.bastore, 1)) (hs : m2_sh c0 = some (.inl (0, n, rs))) (hin : vp_in i n) (k : κ (pc + 1) ls st (m2_si μ c0 i.toNatClampNeg (vp_nar .byte x))) : κ pc ls (.int x :: .int i :: .ref c0 :: st) μ := by
  obtain ⟨p, l, e, R, s, m, args, below, meth, c, D, dA, ad, cells, slots, Z, ⟨hx, hb, hml, ho, hw, hK, hj, hk, hfr, hlo, hce, hsl⟩, rfl⟩ := h
  intro H locs la hP hS hl
  refine va_bast hx hb hK.1 hP (m2_D hj) hS c0 0 (by rw [m2_ws_get (m2_sh_lt hs), m2_ce_arr hs (by decide) (by decide)]) rfl hin hd (fun H1 locs1 hP1 hD1 hS1 => ?_)
  rw [m2_set_arr hs (by decide) (by decide)] at hP1
  exact k H1 locs1 la hP1 hS1 hl
theorem m2_zast (h : m2_B κ cc own nL d) {c0 n : Nat} {rs : List Nat} {i x : Int32} (hd : decode cc pc = .ok (.bastore, 1)) (hs : m2_sh c0 = some (.inl (4, n, rs))) (hin : vp_in i n) (k : κ (pc + 1) ls st (m2_si μ c0 i.toNatClampNeg (vp_nar .boolean x))) : κ pc ls (.int x :: .int i :: .ref c0 :: st) μ := by
  obtain ⟨p, l, e, R, s, m, args, below, meth, c, D, dA, ad, cells, slots, Z, ⟨hx, hb, hml, ho, hw, hK, hj, hk, hfr, hlo, hce, hsl⟩, rfl⟩ := h
  intro H locs la hP hS hl
  refine va_zast hx hb hK.1 hP (m2_D hj) hS c0 4 (by rw [m2_ws_get (m2_sh_lt hs), m2_ce_arr hs (by decide) (by decide)]) rfl hin hd (fun H1 locs1 hP1 hD1 hS1 => ?_)
  rw [m2_set_arr hs (by decide) (by decide)] at hP1
  exact k H1 locs1 la hP1 hS1 hl
theorem m2_cast (h : m2_B κ cc own nL d) {c0 n : Nat} {rs : List Nat} {i x : Int32} (hd : decode cc pc = .ok (.castore, 1)) (hs : m2_sh c0 = some (.inl (1, n, rs))) (hin : vp_in i n) (k : κ (pc + 1) ls st (m2_si μ c0 i.toNatClampNeg (vp_nar .char x))) : κ pc ls (.int x :: .int i :: .ref c0 :: st) μ := by
  obtain ⟨p, l, e, R, s, m, args, below, meth, c, D, dA, ad, cells, slots, Z, ⟨hx, hb, hml, ho, hw, hK, hj, hk, hfr, hlo, hce, hsl⟩, rfl⟩ := h
  intro H locs la hP hS hl
  refine va_cast hx hb hK.1 hP (m2_D hj) hS c0 1 (by rw [m2_ws_get (m2_sh_lt hs), m2_ce_arr hs (by decide) (by decide)]) rfl hin hd (fun H1 locs1 hP1 hD1 hS1 => ?_)
  rw [m2_set_arr hs (by decide) (by decide)] at hP1
  exact k H1 locs1 la hP1 hS1 hl
theorem m2_last (h : m2_B κ cc own nL d) {c0 n : Nat} {rs : List Nat} {i : Int32} {x : Int64} (hd : decode cc pc = .ok (.lastore, 1)) (hs : m2_sh c0 = some (.inl (3, n, rs))) (hin : vp_in i n) (k : κ (pc + 1) ls st (m2_sl μ c0 (vp_updL (μ.2 c0) i.toNatClampNeg x))) : κ pc ls (.long x :: .int i :: .ref c0 :: st) μ := by
  obtain ⟨p, l, e, R, s, m, args, below, meth, c, D, dA, ad, cells, slots, Z, ⟨hx, hb, hml, ho, hw, hK, hj, hk, hfr, hlo, hce, hsl⟩, rfl⟩ := h
  intro H locs la hP hS hl
  refine va_last hx hb hK.1 hP (m2_D hj) hS c0 3 (by rw [m2_ws_get (m2_sh_lt hs), m2_ce_arl hs]) rfl hin hd (fun H1 locs1 hP1 hD1 hS1 => ?_)
  rw [m2_set_arl hs] at hP1
  exact k H1 locs1 la hP1 hS1 hl
theorem m2_aald (h : m2_B κ cc own nL d) {c0 t n c1 : Nat} {rs : List Nat} {i : Int32} (hd : decode cc pc = .ok (.aaload, 1)) (hs : m2_sh c0 = some (.inl (t, n, rs))) (h5 : t = 5 ∨ t = 6) (hin : vp_in i n) (hr : rs[i.toNatClampNeg]? = some c1) (k : κ (pc + 1) ls (.ref c1 :: st) μ) : κ pc ls (.int i :: .ref c0 :: st) μ := by
  obtain ⟨p, l, e, R, s, m, args, below, meth, c, D, dA, ad, cells, slots, Z, ⟨hx, hb, hml, ho, hw, hK, hj, hk, hfr, hlo, hce, hsl⟩, rfl⟩ := h
  intro H locs la hP hS hl
  have hlt : i.toNatClampNeg < n := Nat.not_le.mp fun q => hin (Or.inr q)
  have hcell := hP c0 _ (m2_ws_get (m2_sh_lt hs))
  rw [m2_ce_arq hs (by omega)] at hcell
  have hk := k H locs la hP hS hl
  rcases h5 with rfl | rfl
  · refine W.aald (ty := .object "ClosesAfterSeventh$Kept") hx hb hcell ((hK.1.2 5 _ rfl).1 n (fun j => va_rf ((rs[j]?).map ad))) rfl (fun q => by cases q) (by show ¬ (i < 0 ∨ (arrV _ _ _).slots.size ≤ _); rw [arrV_size]; exact hin) (v := .ref (ad c1)) (by show (arrV _ _ _).slots[_]? = _; rw [arrV_read _ _ hlt]; show some (va_rf (Option.map ad rs[i.toNatClampNeg]?)) = _; rw [hr]; rfl) rfl rfl hd hk
  · refine W.aald (ty := .array .int) hx hb hcell ((hK.1.2 6 _ rfl).1 n (fun j => va_rf ((rs[j]?).map ad))) rfl (fun q => by cases q) (by show ¬ (i < 0 ∨ (arrV _ _ _).slots.size ≤ _); rw [arrV_size]; exact hin) (v := .ref (ad c1)) (by show (arrV _ _ _).slots[_]? = _; rw [arrV_read _ _ hlt]; show some (va_rf (Option.map ad rs[i.toNatClampNeg]?)) = _; rw [hr]; rfl) rfl rfl hd hk
theorem m2_alenI (h : m2_B κ cc own nL d) {c0 n : Nat} {rs : List Nat} (hd : decode cc pc = .ok (.arraylength, 1)) (hs : m2_sh c0 = some (.inl (2, n, rs))) (k : κ (pc + 1) ls (.int (Int32.ofNat n) :: st) μ) : κ pc ls (.ref c0 :: st) μ := by
  obtain ⟨p, l, e, R, s, m, args, below, meth, c, D, dA, ad, cells, slots, Z, ⟨hx, hb, hml, ho, hw, hK, hj, hk, hfr, hlo, hce, hsl⟩, rfl⟩ := h
  intro H locs la hP hS hl
  exact va_alen (x := (n, .inl (μ.1 c0))) hx hb hK.1 hP c0 2 (by rw [m2_ws_get (m2_sh_lt hs), m2_ce_arr hs (by decide) (by decide)]) rfl rfl hd (k H locs la hP hS hl)
theorem m2_alenL (h : m2_B κ cc own nL d) {c0 n : Nat} {rs : List Nat} (hd : decode cc pc = .ok (.arraylength, 1)) (hs : m2_sh c0 = some (.inl (3, n, rs))) (k : κ (pc + 1) ls (.int (Int32.ofNat n) :: st) μ) : κ pc ls (.ref c0 :: st) μ := by
  obtain ⟨p, l, e, R, s, m, args, below, meth, c, D, dA, ad, cells, slots, Z, ⟨hx, hb, hml, ho, hw, hK, hj, hk, hfr, hlo, hce, hsl⟩, rfl⟩ := h
  intro H locs la hP hS hl
  exact va_alen (x := (n, .inr (.inl (μ.2 c0)))) hx hb hK.1 hP c0 3 (by rw [m2_ws_get (m2_sh_lt hs), m2_ce_arl hs]) rfl rfl hd (k H locs la hP hS hl)
theorem m2_copyi (h : m2_B κ cc own nL (d + 1)) {idx c0 c1 n0 n1 : Nat} {r0 r1 : List Nat} {sp dp n : Int32} (hd : decode cc pc = .ok (.invokestatic idx, 3)) (hl1 : Cond.methodLink own idx arraycopyName ∈ m2_WS) (hl2 : Cond.native arraycopyName ∈ m2_WS) (hl3 : Cond.static arraycopyName ∈ m2_WS) (hl4 : Cond.initialized "java/lang/System" ∈ m2_WS) (hst : (st.map fun v => v.category).sum ≤ 4)
    (hs0 : m2_sh c0 = some (.inl (2, n0, r0))) (hs1 : m2_sh c1 = some (.inl (2, n1, r1))) (h1 : ¬ sp < 0) (h2 : ¬ dp < 0) (h3 : ¬ n < 0) (h4 : sp.toNatClampNeg + n.toNatClampNeg ≤ n0) (h5 : dp.toNatClampNeg + n.toNatClampNeg ≤ n1)
    (k : κ (pc + 3) ls st (m2_sr μ c1 (va_cpy (μ.1 c0) (μ.1 c1) sp.toNatClampNeg dp.toNatClampNeg n.toNatClampNeg))) : κ pc ls (.int n :: .int dp :: .ref c1 :: .int sp :: .ref c0 :: st) μ := by
  obtain ⟨p, l, e, R, s, m, args, below, meth, c, D, dA, ad, cells, slots, Z, ⟨hx, hb, hml, ho, hw, hK, hj, hk, hfr, hlo, hce, hsl⟩, rfl⟩ := h
  intro H locs la hP hS hl
  have hcat : ((st.map (m2_rv ad)).map fun v => v.category).sum ≤ 4 := by
    rw [List.map_map]
    rw [show ((fun v : Value => v.category) ∘ m2_rv ad) = (fun v => v.category) from funext fun v => m2_rv_cat ad v]
    exact hst
  refine va_copyi hx hb (hml.trans hl.2.1.symm) ho (hw _ hl1) (hw _ hl2) (hw _ hl3) (hw _ hl4) hK.1 hP (m2_D hj) hS c0 c1 2 2 (by rw [m2_ws_get (m2_sh_lt hs0), m2_ce_arr hs0 (by decide) (by decide)]) (by rw [m2_ws_get (m2_sh_lt hs1), m2_ce_arr hs1 (by decide) (by decide)]) rfl rfl rfl h1 h2 h3 h4 h5 (fun _ _ => rfl) (by omega) (Nat.le_trans (Nat.add_le_add_right hcat _) (Nat.le_trans (by decide : 4 + (nativeFrameWords "java/lang/System" "arraycopy" 5 + 11) ≤ 40) (by omega))) hd (fun H1 locs1 hP1 hD1 hS1 => ?_)
  rw [m2_set_arr hs1 (by decide) (by decide)] at hP1
  exact k H1 locs1 la hP1 hS1 hl
end M2R
