/-! two: the reference's search, both levels -/
theorem mrg_new {b : tB} {q : Nat × List Nat} (h : ∀ q0, b = some q0 → q.1 < q0.1) : mrg b (some q) = some q := by
  cases b with
  | none => rfl
  | some q0 => exact if_pos (h q0 rfl)
theorem c0_0 : ((0 : Int32)).toNatClampNeg = 0 := by decide
set_option maxHeartbeats 1000000 in
theorem tw_leaf {n : Nat} {A B : Nat → Nat} {T : Nat → Bool} {W : Nat → Nat} {who goal : Nat} {P : List Nat} {cnt : Bool} (hP : P.length ≤ 5) {κ : Nat → List Value → List Value → m2M → Prop} {D : Nat} {QQ : Option Value → m2M → Prop} {Q : List Nat} {S : Nat → Bool} (μ : m2M) (hQ5 : Q.length ≤ 5) (hI : tI μ n A B T W 0 who goal cnt) (h57 : μ.1 kM 57 = nI P.length) (hf : ∀ i d, P[i]? = some d → μ.1 kM_firstWay i = nI d) (hway : ∀ i d, Q[i]? = some d → μ.1 kM_secondWay i = nI d) (hκ : m2_RL κ cX12_twoFrom RX12 9 (D + 1) none QQ) (fin : ∀ μ', frW2 μ μ' → μ'.1 kM 57 = μ.1 kM 57 → μ'.1 kM_firstWay = μ.1 kM_firstWay → μ'.1 kM_secondWay = μ.1 kM_secondWay → stT (some (tw P Q)) μ' → QQ none μ') : κ 34 [.ref kM, .int 0, .int (nI Q.length), .int (nI goal), .int (bts S 12), .int (nI (P.length + Q.length)), .null, .null, .null] [] μ := by
  have gl := hI.2.2.2.2.1
  rw [if_pos rfl] at gl
  refine B_X12_twoFrom_34 hκ ⟨fun _ => ⟨fun w => absurd gl.symm w, fun _ => ⟨fun _ => ?_, fun w => absurd rfl w⟩⟩, fun w => absurd rfl w⟩
  rw [c0_0, h57]
  have two : ∀ M, frW2 μ M → M.1 kM 57 = nI P.length → M.1 kM_firstWay = μ.1 kM_firstWay → M.1 kM_secondWay = μ.1 kM_secondWay → M.1 kM 58 = nI (P.length + Q.length) → M.1 kM_bestTwo 0 = nI P.length → (∀ j d, P[j]? = some d → M.1 kM_bestTwo (1 + j) = nI d) → M.1 kM_bestTwo (1 + P.length) = nI Q.length → κ 154 [.ref kM, .int 0, .int (nI Q.length), .int (nI goal), .int (bts S 12), .int (nI (P.length + Q.length)), .int 0, .null, .null] [] M := by
    intro M a1 a2 a3 a4 a5 a6 a7 a8
    refine dn (n := Q.length) (G := fun i => ∀ M, frW2 μ M → M.1 kM 57 = nI P.length → M.1 kM_firstWay = μ.1 kM_firstWay → M.1 kM_secondWay = μ.1 kM_secondWay → M.1 kM 58 = nI (P.length + Q.length) → M.1 kM_bestTwo 0 = nI P.length → (∀ j d, P[j]? = some d → M.1 kM_bestTwo (1 + j) = nI d) → M.1 kM_bestTwo (1 + P.length) = nI Q.length → (∀ j d, j < i → Q[j]? = some d → M.1 kM_bestTwo (2 + P.length + j) = nI d) → κ 154 [.ref kM, .int 0, .int (nI Q.length), .int (nI goal), .int (bts S 12), .int (nI (P.length + Q.length)), .int (nI i), .null, .null] [] M) (fun M a1 a2 a3 a4 a5 a6 a7 a8 a9 => ?_) (fun i hi ih M a1 a2 a3 a4 a5 a6 a7 a8 a9 => ?_) M a1 a2 a3 a4 a5 a6 a7 a8 (fun j d hj => absurd hj (Nat.not_lt_zero j))
    · refine B_X12_twoFrom_154 hκ ⟨fun _ => fin M a1 (a2.trans h57.symm) a3 a4 ⟨P, Q, rfl, hP, hQ5, a5, a6, a7, a8, fun j d hj => a9 j d (List.getElem?_eq_some_iff.mp hj).1 hj⟩, fun w => absurd (nI_le (Nat.le_refl _) (by omega)) w⟩
    · have e1 : (2 : Int32) + M.1 kM 57 + nI i = nI (2 + P.length + i) := by
        rw [a2, show (2 : Int32) = nI 2 from rfl, nI_add, nI_add]
      refine B_X12_twoFrom_154 hκ ⟨fun w => absurd w (nI_ge hi (by omega)), fun _ => ⟨vp_in_nI (by omega) (by decide), by rw [e1]; exact vp_in_nI (by omega) (by decide), ?_⟩⟩
      rw [e1, nI_clamp (by omega), nI_clamp (by omega), nI_1]
      refine ih _ (a1.si rfl (fun w => absurd w (by decide))) ?_ ?_ ?_ ?_ ?_ (fun j d hj => ?_) ?_ (fun j d hj hjd => ?_)
      · rw [si_nc _ _ _ (by decide)]; exact a2
      · rw [si_nc _ _ _ (by decide)]; exact a3
      · rw [si_nc _ _ _ (by decide)]; exact a4
      · rw [si_nc _ _ _ (by decide)]; exact a5
      · rw [si_nj _ _ _ (by omega)]; exact a6
      · have := (List.getElem?_eq_some_iff.mp hj).1
        rw [si_nj _ _ _ (by omega)]; exact a7 j d hj
      · rw [si_nj _ _ _ (by omega)]; exact a8
      · by_cases z : j = i
        · subst z
          rw [si_at, a4]
          exact hway j d hjd
        · rw [si_nj _ _ _ (by omega)]
          exact a9 j d (by omega) hjd
  refine dn (n := P.length) (G := fun i => ∀ M, frW2 μ M → M.1 kM 57 = nI P.length → M.1 kM_firstWay = μ.1 kM_firstWay → M.1 kM_secondWay = μ.1 kM_secondWay → M.1 kM 58 = nI (P.length + Q.length) → M.1 kM_bestTwo 0 = nI P.length → (∀ j d, j < i → P[j]? = some d → M.1 kM_bestTwo (1 + j) = nI d) → κ 108 [.ref kM, .int 0, .int (nI Q.length), .int (nI goal), .int (bts S 12), .int (nI (P.length + Q.length)), .int (nI i), .null, .null] [] M) (fun M a1 a2 a3 a4 a5 a6 a7 => ?_) (fun i hi ih M a1 a2 a3 a4 a5 a6 a7 => ?_) _ ?_ ?_ ?_ ?_ ?_ ?_ (fun j d hj => absurd hj (Nat.not_lt_zero j))
  · have e1 : (1 : Int32) + M.1 kM 57 = nI (1 + P.length) := by rw [a2]; exact nI_add 1 _
    refine B_X12_twoFrom_108 hκ ⟨fun _ => ⟨by rw [e1]; exact vp_in_nI (by omega) (by decide), ?_⟩, fun w => absurd (by rw [a2]; exact nI_le (Nat.le_refl _) (by omega)) w⟩
    rw [e1, nI_clamp (by omega)]
    refine two _ (a1.si rfl (fun w => absurd w (by decide))) ?_ ?_ ?_ ?_ ?_ (fun j d hj => ?_) ?_
    · rw [si_nc _ _ _ (by decide)]; exact a2
    · rw [si_nc _ _ _ (by decide)]; exact a3
    · rw [si_nc _ _ _ (by decide)]; exact a4
    · rw [si_nc _ _ _ (by decide)]; exact a5
    · rw [si_nj _ _ _ (by omega)]; exact a6
    · have hl := (List.getElem?_eq_some_iff.mp hj).1
      rw [si_nj _ _ _ (by omega)]; exact a7 j d hl hj
    · exact si_at _ _ _ _
  · have e1 : (1 : Int32) + nI i = nI (1 + i) := nI_add 1 i
    refine B_X12_twoFrom_108 hκ ⟨fun w => absurd (by rw [a2] at w; exact w) (nI_ge hi (by omega)), fun _ => ⟨vp_in_nI (by omega) (by decide), by rw [e1]; exact vp_in_nI (by omega) (by decide), ?_⟩⟩
    rw [e1, nI_clamp (by omega), nI_clamp (by omega), nI_1]
    refine ih _ (a1.si rfl (fun w => absurd w (by decide))) ?_ ?_ ?_ ?_ ?_ (fun j d hj hjd => ?_)
    · rw [si_nc _ _ _ (by decide)]; exact a2
    · rw [si_nc _ _ _ (by decide)]; exact a3
    · rw [si_nc _ _ _ (by decide)]; exact a4
    · rw [si_nc _ _ _ (by decide)]; exact a5
    · rw [si_nj _ _ _ (by omega)]; exact a6
    · by_cases z : j = i
      · subst z
        rw [si_at, a3]
        exact hf j d hjd
      · rw [si_nj _ _ _ (by omega)]
        exact a7 j d (by omega) hjd
  · exact (frW2.rf.si rfl (fun _ => Or.inr rfl)).si rfl (fun w => absurd w (by decide))
  · rw [si_nc _ _ _ (by decide), si_nj _ _ _ (by decide)]; exact h57
  · rw [si_nc _ _ _ (by decide), si_nc _ _ _ (by decide)]
  · rw [si_nc _ _ _ (by decide), si_nc _ _ _ (by decide)]
  · rw [si_nc _ _ _ (by decide), si_at]
  · exact si_at _ _ _ _
def eqB (w : Nat) : Nat → Bool := fun j => decide (j = w)
def tE2 (P : List Nat) (M : m2M) : Prop := M.1 kM 57 = nI P.length ∧ ∀ i d, P[i]? = some d → M.1 kM_firstWay i = nI d
theorem S_two2 {n : Nat} {A B : Nat → Nat} {T : Nat → Bool} {W L : Nat → Nat} {who goal D u : Nat} {P : List Nat} {cnt : Bool} {b : tB} (hP : P.length ≤ 5) (hL : ∀ d, d < n → L d < 61) (hD : 7 ≤ D) (μ : m2M) (hu : u < 12) (hI : tI μ n A B T W 0 who goal cnt) (hLf : tL μ n L cnt []) (hE : tE2 P μ) (hb : stT b μ) : m2_MT D yX12_twoFrom cX12_twoFrom 9 none [.ref kM, .int 0, .int 0, .int (nI u), .int (bts (eqB u) 12)] μ (fun _ μ' => frW2 μ μ' ∧ tE2 P μ' ∧ stT (mrg b (dff A B T (tU W L cnt) n goal (fun Q => some (tw P Q)) 5 u (eqB u) [])) μ') := by
  have h := S_twoG (n := n) (A := A) (B := B) (T := T) (W := W) (L := L) (x1 := 0) (who := who) (goal := goal) (cW := kM_secondWay) (s := P.length) (D0 := 1) (cnt := cnt) (G := fun Q => some (tw P Q)) (E := tE2 P) (Or.inl ⟨rfl, rfl⟩) hP hL (fun M hM _ => hM.1) (fun M j x hM => ⟨by rw [si_nc _ _ _ (by decide)]; exact hM.1, fun i d hi => by rw [si_nc _ _ _ (by decide)]; exact hM.2 i d hi⟩) (fun M j x hM => ⟨by rw [si_nc _ _ _ (by decide)]; exact hM.1, fun i d hi => by rw [si_nc _ _ _ (by decide)]; exact hM.2 i d hi⟩) (fun Q q h => by
      have h : some (tw P Q) = some q := h
      cases h
      show Q.length + P.length ≤ P.length + Q.length
      omega) (fun {κ D QQ Q S b} μ hD hQ5 hI hLf hE hb hway hQ hlt hκ fin => tw_leaf hP μ hQ5 hI hE.1 hE.2 hway hκ (fun μ' a1 a2 a3 a4 a5 => fin μ' a1 ⟨a2.trans hE.1, fun i d hi => by rw [a3]; exact hE.2 i d hi⟩ (fun i _ => by rw [a4]) (by
        show stT (mrg b (some (tw P Q))) μ'
        rw [mrg_new (fun q0 e => hlt q0 e)]
        exact a5))) 5 (D := D) (u := u) (S := eqB u) (Q := []) (b := b) μ (by omega) rfl hu hI hLf hE hb (fun i d hi => by simp at hi) (fun d hd => by simp at hd) (fun d hd => by simp at hd) (by simp [eqB])
  exact m2_MT.mono h (fun r μ' q => ⟨q.1, q.2.1, q.2.2.2⟩)
/-- LEFT for the other when the first one goes by P -/
def LPw (W : Nat → Nat) (cnt : Bool) (P : List Nat) (d : Nat) : Nat := if cnt = true ∧ d ∈ P then W d - 1 else W d
def twG (A B : Nat → Nat) (T : Nat → Bool) (W : Nat → Nat) (n : Nat) (c1 c2 : Bool) (w2 g2 : Nat) (P : List Nat) : tB := dff A B T (tU W (LPw W c1 P) c2) n g2 (fun Q => some (tw P Q)) 5 w2 (eqB w2) []
def twV (A B : Nat → Nat) (T : Nat → Bool) (W : Nat → Nat) (n : Nat) (c1 c2 : Bool) (w1 g1 w2 g2 : Nat) : tB := dff A B T (tU W W c1) n g1 (twG A B T W n c1 c2 w2 g2) 5 w1 (eqB w1) []
theorem twG_ge {A B : Nat → Nat} {T : Nat → Bool} {W : Nat → Nat} {n : Nat} {c1 c2 : Bool} {w2 g2 : Nat} {P : List Nat} {q : Nat × List Nat} (h : twG A B T W n c1 c2 w2 g2 P = some q) : P.length + 0 ≤ q.1 := by
  have := (dff_ge (f := fun _ => 0) (m := P.length) rfl (fun _ _ _ _ _ _ => Nat.zero_le _) (fun Q q h => by
    have h : some (tw P Q) = some q := h
    cases h
    show Q.length + P.length ≤ P.length + Q.length
    omega) h).1
  omega
set_option maxHeartbeats 1000000 in
theorem S_two1 {n : Nat} {A B : Nat → Nat} {T : Nat → Bool} {W : Nat → Nat} {one other g1 g2 D w1 w2 : Nat} {c1 c2 : Bool} {b : tB} (hW : ∀ d, d < n → W d < 61) (hD : 14 ≤ D) (μ : m2M) (hw1 : w1 < 12) (hw2 : w2 < 12) (hI : tI μ n A B T W 1 one g1 c1) (hI2 : tI μ n A B T W 0 other g2 c2) (hwh : μ.1 kM_where other = nI w2) (hLf : tL μ n W c1 []) (hb : stT b μ) : m2_MT D yX12_twoFrom cX12_twoFrom 9 none [.ref kM, .int 1, .int 0, .int (nI w1), .int (bts (eqB w1) 12)] μ (fun _ μ' => frW2 μ μ' ∧ stT (mrg b (twV A B T W n c1 c2 w1 g1 w2 g2)) μ') := by
  have h := S_twoG (n := n) (A := A) (B := B) (T := T) (W := W) (L := W) (x1 := 1) (who := one) (goal := g1) (cW := kM_firstWay) (s := 0) (D0 := 7) (cnt := c1) (G := twG A B T W n c1 c2 w2 g2) (E := fun M => tI M n A B T W 0 other g2 c2 ∧ M.1 kM_where other = nI w2) (Or.inr ⟨rfl, rfl, rfl⟩) (by decide) hW (fun M _ w => absurd w (by decide)) (fun M j x hM => ⟨hM.1.of (fun c h _ => si_nc _ _ _ (fun e => by rw [e] at h; cases h)) (fun j' _ _ => by rw [si_nc _ _ _ (by decide)]), by rw [si_nc _ _ _ (by decide)]; exact hM.2⟩) (fun M j x hM => ⟨hM.1.of (fun c _ hl => si_nc _ _ _ hl) (fun j' _ _ => by rw [si_nc _ _ _ (by decide)]), by rw [si_nc _ _ _ (by decide)]; exact hM.2⟩) (fun Q q h => twG_ge h) (fun {κ D QQ P S b} μ hD hP5 hI hLf hE hb hway hP hlt hκ fin => ?_) 5 (D := D) (u := w1) (S := eqB w1) (Q := []) (b := b) μ (by omega) rfl hw1 hI hLf ⟨hI2, hwh⟩ hb (fun i d hi => by simp at hi) (fun d hd => by simp at hd) (fun d hd => by simp at hd) (by simp [eqB])
  · exact m2_MT.mono h (fun r μ' q => ⟨q.1, q.2.2.2⟩)
  · have gl := hI.2.2.2.2.1
    rw [if_neg (by decide)] at gl
    have h60 : μ.1 kM 60 = nI other := by
      have := hE.1.2.2.2.1
      rw [if_pos rfl] at this
      exact this
    have ho : other < 8 := hE.1.2.2.1
    refine B_X12_twoFrom_34 hκ ⟨fun w => absurd w (by decide), fun _ => ⟨fun w => absurd gl.symm w, fun _ => ⟨fun w => absurd w (by decide), fun _ => ⟨by rw [h60]; exact vp_in_nI ho (by decide), ?_⟩⟩⟩⟩
    rw [h60, nI_clamp (by omega), hE.2, bts_one (n := 12) (by decide) hw2]
    have f0 : frW2 μ (m2_si μ kM 57 (nI P.length)) := frW2.rf.si rfl (fun _ => Or.inl rfl)
    refine ⟨_, S_two2 (L := LPw W c1 P) (P := P) (b := b) hP5 (fun d hd => by unfold LPw; have := hW d hd; split <;> omega) hD _ hw2 (hE.1.of (fun c h _ => f0.1 c h) f0.2.2) (fun d hd => ?_) ⟨si_at _ _ _ _, fun i d hi => by rw [si_nc _ _ _ (by decide)]; exact hway i d hi⟩ (hb.of (si_nj _ _ _ (by decide)) (si_nc _ _ _ (by decide))), fun μ' h' => ?_⟩
    · have en : ¬ (c2 = true ∧ d ∈ ([] : List Nat)) := fun w => by simp at w
      rw [si_nc _ _ _ (by decide), hLf d hd, if_neg en]
      unfold LPw
      by_cases z : c1 = true ∧ d ∈ P
      · rw [if_pos z, if_pos z]
        have := (tU_iff.mp (hP d z.2).2).1
        have e := pk_sub (a := W d) (b := 1) (by omega)
        exact e
      · rw [if_neg z, if_neg z]
    · obtain ⟨k1, k2, k3⟩ := h'
      refine fin μ' (f0.tr k1) ⟨hE.1.of (fun c h _ => (f0.tr k1).1 c h) (f0.tr k1).2.2, ?_⟩ (fun i hi => ?_) k3
      · rw [(f0.tr k1).1 kM_where rfl]; exact hE.2
      · obtain ⟨d, ed⟩ : ∃ d, P[i]? = some d := ⟨P[i], List.getElem?_eq_getElem hi⟩
        rw [k2.2 i d ed, hway i d ed]
