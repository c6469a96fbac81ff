/-! build -/
theorem tlM_tl (μ : m2M) (l l' : List Int64) : tlM (tlM μ l) l' = tlM μ l' := by
  unfold tlM
  rw [m2_sl_si, m2_si_si, m2_sl_sl]
theorem RLn.tell {ν μ μ' : m2M} {n p : Nat} {l : List Int64} (q : RLn ν μ n p) (h : rC l μ') (ht : twC μ μ') (hl : l.length ≤ 16) : RLn (tlM ν l) μ' n p := by
  obtain ⟨g, z, rfl⟩ := ht
  obtain ⟨h1, h2, h3, h4, h5, h6, h7, h8, h9⟩ := q
  exact ⟨h1, h2, h3, ⟨l.length, hl, h.1, rfl, fun i hi => h.2 i hi⟩, h5, r_K_c (Or.inl (by decide)) (r_K_m rfl h6), h7, h8, h9⟩
def fwB (μ : m2M) (m : Nat) (A B : Nat → Nat) (T : Nat → Bool) (L : Nat → Nat) : Prop := μ.1 kF 6 = nI m ∧ m ≤ 20 ∧ (∀ d, d < m → μ.1 kF_a d = nI (A d) ∧ A d < 12 ∧ μ.1 kF_b d = nI (B d) ∧ B d < 12 ∧ A d ≠ B d ∧ μ.1 kF_oneWay d = (if T d = true then 0 else 1) ∧ μ.1 kF_lets d = nI (L d) ∧ L d ≤ 61)
theorem fwB.keep {μ μ' : m2M} {m : Nat} {A B : Nat → Nat} {T : Nat → Bool} {L : Nat → Nat} {S : Nat → Bool} (q : fwB μ m A B T L) (h : fr S μ μ') (hS : ∀ c, 37 ≤ c → c ≤ 45 → S c = false) : fwB μ' m A B T L := by
  obtain ⟨h1, h2, h3⟩ := q
  refine ⟨by rw [(h kF (hS _ (by decide) (by decide))).1]; exact h1, h2, fun d hd => ?_⟩
  rw [(h kF_a (hS _ (by decide) (by decide))).1, (h kF_b (hS _ (by decide) (by decide))).1, (h kF_oneWay (hS _ (by decide) (by decide))).1, (h kF_lets (hS _ (by decide) (by decide))).1]
  exact h3 d hd
theorem frN.B {μ μ' : m2M} {m : Nat} {A B : Nat → Nat} {T : Nat → Bool} {L : Nat → Nat} (h : frN μ μ') (q : fwB μ m A B T L) : fwB μ' m A B T L := by
  obtain ⟨h1, h2, h3⟩ := q
  refine ⟨(h.2 6 (by decide)).trans h1, h2, fun d hd => ?_⟩
  rw [(h.1 kF_a rfl).1, (h.1 kF_b rfl).1, (h.1 kF_oneWay rfl).1, (h.1 kF_lets rfl).1]
  exact h3 d hd
def tpN (T : Nat → Bool) (n : Nat) : Nat → Bool := fun d => if d = n then true else T d
theorem S_lay {D m a b v : Nat} {A B : Nat → Nat} {T : Nat → Bool} {L : Nat → Nat} (μ : m2M) (h : fwB μ m A B T L) (ha : a < 12) (hb : b < 12) (hab : a ≠ b) (hv : v ≤ 61) : m2_MT D yX1_lay cX1_lay 4 none [.ref kF, .int (nI a), .int (nI b), .int (nI v)] μ (fun _ μ' => frK μ μ' ∧ fwB μ' m A B T L ∧ fwA μ' (m + 1) (updN A m a) (updN B m b) (tpN T m) (updN L m v)) := by
  obtain ⟨h1, h2, h3⟩ := h
  refine m2_MT.intro (ls := [.ref kF, .int (nI a), .int (nI b), .int (nI v)]) (by decide +kernel) rfl (ble rfl) (fun κ hk => ?_)
  refine B_X1_lay_0 hk ?_
  rw [h1, nI_clamp (by omega), nI_1, nar_0]
  refine ⟨vp_in_nI (by omega) (by decide), fr_si rfl (fr_si rfl (fr_si rfl (fr_si rfl (fr_si rfl fr.rf)))), ?_, ?_⟩
  · refine ⟨?_, h2, fun d hd => ?_⟩
    · rw [si_nj _ _ _ (by decide)]
      exact h1
    · have e : d ≠ m := by omega
      obtain ⟨a1, a2, a3, a4, a5, a6, a7, a8⟩ := h3 d hd
      refine ⟨?_, a2, ?_, a4, a5, ?_, ?_, a8⟩
      · rw [si_nc _ _ _ (by decide), si_nc _ _ _ (by decide), si_nc _ _ _ (by decide), si_nc _ _ _ (by decide), si_nj _ _ _ e]; exact a1
      · rw [si_nc _ _ _ (by decide), si_nc _ _ _ (by decide), si_nc _ _ _ (by decide), si_nj _ _ _ e]; exact a3
      · rw [si_nc _ _ _ (by decide), si_nc _ _ _ (by decide), si_nj _ _ _ e]; exact a6
      · rw [si_nc _ _ _ (by decide), si_nj _ _ _ e]; exact a7
  · refine ⟨si_at _ _ _ _, by omega, fun d hd => ?_⟩
    by_cases e : d = m
    · subst e
      unfold tpN
      rw [updN_at, updN_at, updN_at, if_pos rfl]
      refine ⟨?_, ha, ?_, hb, hab, ?_, ?_, hv⟩
      · rw [si_nc _ _ _ (by decide), si_nc _ _ _ (by decide), si_nc _ _ _ (by decide), si_nc _ _ _ (by decide), si_at]
      · rw [si_nc _ _ _ (by decide), si_nc _ _ _ (by decide), si_nc _ _ _ (by decide), si_at]
      · rw [si_nc _ _ _ (by decide), si_nc _ _ _ (by decide), si_at]; rfl
      · rw [si_nc _ _ _ (by decide), si_at]
    · unfold tpN
      rw [updN_ne e, updN_ne e, updN_ne e, if_neg e]
      obtain ⟨a1, a2, a3, a4, a5, a6, a7, a8⟩ := h3 d (by omega)
      refine ⟨?_, a2, ?_, a4, a5, ?_, ?_, a8⟩
      · rw [si_nc _ _ _ (by decide), si_nc _ _ _ (by decide), si_nc _ _ _ (by decide), si_nc _ _ _ (by decide), si_nj _ _ _ e]; exact a1
      · rw [si_nc _ _ _ (by decide), si_nc _ _ _ (by decide), si_nc _ _ _ (by decide), si_nj _ _ _ e]; exact a3
      · rw [si_nc _ _ _ (by decide), si_nc _ _ _ (by decide), si_nj _ _ _ e]; exact a6
      · rw [si_nc _ _ _ (by decide), si_nj _ _ _ e]; exact a7
/-- the best so far -/
def upS (W : Nat → Nat → Nat) (s : Option (Nat × Nat × Nat)) (a b : Nat) : Option (Nat × Nat × Nat) := match s with
  | none => some (a, b, W a b)
  | some q => if q.2.2 < W a b then some (a, b, W a b) else some q
def inF (W : Nat → Nat → Nat) (a : Nat) : Nat → Nat → Option (Nat × Nat × Nat) → Option (Nat × Nat × Nat)
  | 0, _, s => s
  | f + 1, b, s => inF W a f (b + 1) (upS W s a b)
def ouF (W : Nat → Nat → Nat) (N : Nat) : Nat → Nat → Option (Nat × Nat × Nat) → Option (Nat × Nat × Nat)
  | 0, _, s => s
  | f + 1, a, s => ouF W N f (a + 1) (inF W a (N - (a + 1)) (a + 1) s)
theorem upS_s (W : Nat → Nat → Nat) (s : Option (Nat × Nat × Nat)) (a b : Nat) : ∃ q, upS W s a b = some q := by
  unfold upS
  cases s with
  | none => exact ⟨_, rfl⟩
  | some q =>
    simp only
    split
    · exact ⟨_, rfl⟩
    · exact ⟨_, rfl⟩
theorem inF_s (W : Nat → Nat → Nat) (a : Nat) : ∀ (f b : Nat) (q : Nat × Nat × Nat), ∃ q', inF W a f b (some q) = some q'
  | 0, _, q => ⟨q, rfl⟩
  | f + 1, b, q => by
    obtain ⟨q1, e1⟩ := upS_s W (some q) a b
    show ∃ q', inF W a f (b + 1) (upS W (some q) a b) = some q'
    rw [e1]
    exact inF_s W a f (b + 1) q1
theorem ouF_s (W : Nat → Nat → Nat) (N : Nat) : ∀ (f a : Nat) (q : Nat × Nat × Nat), ∃ q', ouF W N f a (some q) = some q'
  | 0, _, q => ⟨q, rfl⟩
  | f + 1, a, q => by
    obtain ⟨q1, e1⟩ := inF_s W a (N - (a + 1)) (a + 1) q
    show ∃ q', ouF W N f (a + 1) (inF W a (N - (a + 1)) (a + 1) (some q)) = some q'
    rw [e1]
    exact ouF_s W N f (a + 1) q1
theorem ouF_0 (W : Nat → Nat → Nat) {N : Nat} (h : 2 ≤ N) : ∃ q, ouF W N N 0 none = some q := by
  obtain ⟨K, rfl⟩ : ∃ K, N = K + 2 := ⟨N - 2, by omega⟩
  show ∃ q, ouF W (K + 2) (K + 1) 1 (inF W 0 (K + 1) 1 (none)) = some q
  show ∃ q, ouF W (K + 2) (K + 1) 1 (inF W 0 K 2 (some (0, 1, W 0 1))) = some q
  obtain ⟨q1, e1⟩ := inF_s W 0 K 2 (0, 1, W 0 1)
  rw [e1]
  exact ouF_s W _ _ _ q1
def bC (s : Option (Nat × Nat × Nat)) : Int32 := match s with
  | none => -1
  | some q => nI q.2.2
def rwL (q : Nat × Nat × Nat) : List Int64 := [(nI q.1).toInt64, (nI q.2.1).toInt64]
def rwS (μ : m2M) (s : Option (Nat × Nat × Nat)) : m2M := match s with
  | none => μ
  | some q => tlM μ (rwL q)
noncomputable def bdW (μ : m2M) (n v frm to a b : Nat) : Nat := mV (dcut (n + 1) (updN (dA μ) n a) (updN (dB μ) n b) (tpN (dT μ) n) (updN (dL μ) n v)) frm to
/-- what the reference has laid with the new DOOR -/
theorem lyS_new {ν M : m2M} {n a b v : Nat} (hs : lyS ν (dL ν) n M) (hn : n ≤ 20) (ha : a < 12) (hb : b < 12) (hab : a ≠ b) (hv : v ≤ 61) : ∃ c : Nat → Nat, (∀ k, k < 196 → M.1 kM_can k = nI (c k)) ∧ ckM (layN c a b true v) ∧ ∀ X, cutC (layN c a b true v) X = dcut (n + 1) (updN (dA ν) n a) (updN (dB ν) n b) (tpN (dT ν) n) (updN (dL ν) n v) X := by
  obtain ⟨c, c1, c2, c3⟩ := hs
  refine ⟨c, c1, fun r s hr hs => ?_, fun X => ?_⟩
  · have h1 := layN_le (v := v) (t := true) (N := 61 * n) hab (by omega) (by omega) c2 (14 * r + s) (by omega)
    have h2 := layN_le (v := v) (t := true) (N := 61 * n) hab (by omega) (by omega) c2 (14 * s + r) (by omega)
    omega
  · rw [layN_cut X (by omega) (by omega) hab, c3 X]
    show _ = sumN (rcT (updN (dA ν) n a) (updN (dB ν) n b) (tpN (dT ν) n) (updN (dL ν) n v) (updN (dL ν) n v) X) n + rcT (updN (dA ν) n a) (updN (dB ν) n b) (tpN (dT ν) n) (updN (dL ν) n v) (updN (dL ν) n v) X n
    have e1 : sumN (rcT (updN (dA ν) n a) (updN (dB ν) n b) (tpN (dT ν) n) (updN (dL ν) n v) (updN (dL ν) n v) X) n = sumN (rcT (dA ν) (dB ν) (dT ν) (dL ν) (dL ν) X) n := by
      refine sumN_congr (fun i hi => ?_)
      have et : tpN (dT ν) n i = dT ν i := if_neg (by omega)
      unfold rcT fwS
      rw [et, updN_ne (by omega), updN_ne (by omega), updN_ne (by omega)]
    rw [e1]
    have et : tpN (dT ν) n n = true := if_pos rfl
    unfold rcT fwS
    rw [et, updN_at, updN_at, updN_at, if_pos (c := (true = true)) rfl, Nat.add_sub_cancel]
