/-! house -/
theorem eD.z {ν μ ν2 μ2 : m2M} {d : Nat} (h : eD ν μ d) (hν : ∀ c, 66 ≤ c → c ≤ 71 → ν2.1 c d = ν.1 c d) (hμ : ∀ c, 9 ≤ c → c ≤ 14 → μ2.1 c d = μ.1 c d) : eD ν2 μ2 d := by
  unfold eD at *
  rw [hν kM_doorA (by decide) (by decide), hν kM_doorB (by decide) (by decide), hν kM_isOneWay (by decide) (by decide), hν kM_lets (by decide) (by decide), hν kM_left (by decide) (by decide), hν kM_atNoon (by decide) (by decide), hμ kD_a (by decide) (by decide), hμ kD_b (by decide) (by decide), hμ kD_oneWay (by decide) (by decide), hμ kD_lets (by decide) (by decide), hμ kD_left (by decide) (by decide), hμ kD_noon (by decide) (by decide)]
  exact h
theorem eP.z {ν μ ν2 μ2 : m2M} {d : Nat} (h : eP ν μ d) (hν : ∀ c, 72 ≤ c → c ≤ 79 → ν2.1 c d = ν.1 c d) (hμ : ∀ c, 16 ≤ c → c ≤ 23 → μ2.1 c d = μ.1 c d) : eP ν2 μ2 d := by
  unfold eP at *
  rw [hν kM_where (by decide) (by decide), hν kM_home (by decide) (by decide), hν kM_isStranger (by decide) (by decide), hν kM_worth (by decide) (by decide), hν kM_errand (by decide) (by decide), hν kM_comesBack (by decide) (by decide), hν kM_wasThere (by decide) (by decide), hν kM_isDone (by decide) (by decide), hμ kP_where (by decide) (by decide), hμ kP_first (by decide) (by decide), hμ kP_stranger (by decide) (by decide), hμ kP_worth (by decide) (by decide), hμ kP_errand (by decide) (by decide), hμ kP_back (by decide) (by decide), hμ kP_reached (by decide) (by decide), hμ kP_done (by decide) (by decide)]
  exact h
theorem RLn.dd {ν μ : m2M} {n p d : Nat} (h : RLn ν μ n p) (hd : d < n) : eD ν μ d := h.1.2.2.2 d hd
theorem RLn.pp {ν μ : m2M} {n p q : Nat} (h : RLn ν μ n p) (hq : q < p) : eP ν μ q := ⟨h.2.1.2.2.2 q hq, h.2.2.2.2.2.2.2.2.2.1 p q h.2.1.2.1 h.2.1.2.2.1 hq⟩
/-- what is seen of the reference -/
def vN (n p : Nat) (ν ρ : m2M) : Prop := (∀ c j, isM c = true → scr c j = false → ¬ (66 ≤ c ∧ c ≤ 71 ∧ n ≤ j) → ¬ (72 ≤ c ∧ c ≤ 79 ∧ p ≤ j) → ρ.1 c j = ν.1 c j) ∧ ∀ r j : Nat, ν.1 kM 21 = nI r → r ≤ 16 → j < r → ρ.2 kM_row j = ν.2 kM_row j
theorem RLn.vn {ν μ ρ : m2M} {n p : Nat} (h : RLn ν μ n p) (g : vN n p ν ρ) : RLn ρ μ n p := by
  obtain ⟨h1, h2, h3, h4, h5, h6, h7, h8, ⟨h9, h10, h11⟩⟩ := id h
  have no : ∀ c j, isM c = true → scr c j = false → ¬ (66 ≤ c ∧ c ≤ 79) → ρ.1 c j = ν.1 c j := fun c j a b z => g.1 c j a b (fun w => z ⟨w.1, by omega⟩) (fun w => z ⟨by omega, w.2.1⟩)
  have gk : ∀ j, scr kM j = false → ρ.1 kM j = ν.1 kM j := fun j hj => no kM j rfl hj (by decide)
  have gd : ∀ c d, 66 ≤ c → c ≤ 71 → d < n → ρ.1 c d = ν.1 c d := by
    intro c d c1 c2 hd
    refine g.1 c d ?_ ?_ (fun w => by omega) (fun w => by omega)
    · unfold isM; rw [ble_t (by omega), ble_t (by omega)]; rfl
    · rcases (show c = 66 ∨ c = 67 ∨ c = 68 ∨ c = 69 ∨ c = 70 ∨ c = 71 by omega) with rfl | rfl | rfl | rfl | rfl | rfl <;> rfl
  have gp : ∀ c d, 72 ≤ c → c ≤ 79 → d < p → ρ.1 c d = ν.1 c d := by
    intro c d c1 c2 hd
    refine g.1 c d ?_ ?_ (fun w => by omega) (fun w => by omega)
    · unfold isM; rw [ble_t (by omega), ble_t (by omega)]; rfl
    · rcases (show c = 72 ∨ c = 73 ∨ c = 74 ∨ c = 75 ∨ c = 76 ∨ c = 77 ∨ c = 78 ∨ c = 79 by omega) with rfl | rfl | rfl | rfl | rfl | rfl | rfl | rfl <;> rfl
  have gput : ∀ j, j < 135 → ρ.1 kM_put j = ν.1 kM_put j := fun j hj => no kM_put j rfl (scr_put hj) (by decide)
  refine ⟨⟨h1.1, (gk 0 rfl).trans h1.2.1, h1.2.2.1, fun d hd => (h.dd hd).z (fun c c1 c2 => gd c d c1 c2 hd) (fun _ _ _ => rfl)⟩, ⟨h2.1, (gk 7 rfl).trans h2.2.1, h2.2.2.1, fun q hq => ((h.pp hq).z (fun c c1 c2 => gp c q c1 c2 hq) (fun _ _ _ => rfl)).1⟩, ?_, ?_, ?_, ?_, ?_, ?_, ?_, ?_, ?_⟩
  · obtain ⟨t, t1, t2, t3, t4⟩ := h3
    refine ⟨t, t1, t2, (gk 19 rfl).trans t3, fun i hi => ?_⟩
    rw [no kM_text i rfl rfl (by decide)]
    exact t4 i hi
  · obtain ⟨r, t1, t2, t3, t4⟩ := h4
    refine ⟨r, t1, t2, (gk 21 rfl).trans t3, fun i hi => ?_⟩
    rw [g.2 r i t3 t1 hi]
    exact t4 i hi
  · obtain ⟨t, t1, t2, t3, t4⟩ := h5
    refine ⟨t, t1, t2, (gk 64 rfl).trans t3, fun i hi => ?_⟩
    rw [no kM_saysWho i rfl rfl (by decide), no kM_saysDoor i rfl rfl (by decide), no kM_saysNumber i rfl rfl (by decide)]
    exact t4 i hi
  · intro i hi
    obtain ⟨k1, k2, k3⟩ := h6 i hi
    rw [no kM_isKept i rfl rfl (by decide)]
    refine ⟨k1, k2, fun hk => ?_⟩
    obtain ⟨kn, kp, b1, b2, b3, b4, b5, b6, b7, b8, b9, b10⟩ := k3 hk
    refine ⟨kn, kp, b1, b2, b3, (no kM_keptDoors i rfl rfl (by decide)).trans b4, b5, (no kM_keptPeople i rfl rfl (by decide)).trans b6, ?_, ?_, fun d hd => ?_, fun w hw => ?_⟩
    · rw [gput _ (by omega)]; exact b7
    · rw [gput _ (by omega)]; exact b8
    · rw [gput _ (by omega)]; exact b9 d hd
    · rw [gput _ (by omega), gput _ (by omega), gput _ (by omega), gp kM_errand w (by decide) (by decide) (by omega)]
      exact b10 w hw
  · exact ⟨h7.1.trans (gk 16 rfl).symm, by rw [gk 16 rfl]; exact h7.2⟩
  · exact ⟨h8.1.trans (gk 17 rfl).symm, by rw [gk 17 rfl]; exact h8.2⟩
  · obtain ⟨k, l, c1, c2, c3, c4, c5, c6, c7⟩ := h9
    have e : ρ.1 kM_price = ν.1 kM_price := funext fun j => no kM_price j rfl rfl (by decide)
    exact ⟨k, l, c1, (gk 29 rfl).trans c2, by rw [e]; exact c3, c4, c5, c6, c7⟩
  · intro p' q e hp' hq'
    have e : nI p' = nI p := e.symm.trans ((gk 7 rfl).trans h2.2.1)
    have hpp := (nI_eq (by omega) (by have := h2.2.2.1; omega)).mp e
    exact ((h.pp (q := q) (by omega)).z (fun c c1 c2 => gp c q c1 c2 (by omega)) (fun _ _ _ => rfl)).2
  · intro i kp q hi e1 e2 hkp hq'
    have e1' : ν.1 kM_isKept i = 1 := (no kM_isKept i rfl rfl (by decide)).symm.trans e1
    have e2' : ν.1 kM_keptPeople i = nI kp := (no kM_keptPeople i rfl rfl (by decide)).symm.trans e2
    obtain ⟨kn, kp2, b1, b2, b3, b4, b5, b6, _⟩ := (h6 i hi).2.2 e1'
    have : nI kp = nI kp2 := e2'.symm.trans b6
    have := (nI_eq (by omega) (by omega)).mp this
    rw [gput _ (by omega), gput _ (by omega), gput _ (by omega), gp kM_errand q (by decide) (by decide) (by omega), gp kM_comesBack q (by decide) (by decide) (by omega), gp kM_home q (by decide) (by decide) (by omega)]
    exact h11 i kp q hi e1' e2' hkp hq'
theorem T_of2 {D : Nat} {yc : MethodName} {cc : ByteArray} {nc : Nat} {rc : Option FieldType} {ym : MethodName} {cm : ByteArray} {nm : Nat} {rm : Option FieldType} {as : List Value} {μ : m2M} (r : Option Value) (ρ : m2M) (n p : Nat) (hc : m2_MT D yc cc nc rc (.ref kC :: as) μ (fun r' μ1 => r' = r ∧ RLn ρ μ1 n p ∧ frC μ μ1)) (hm : ∀ μ1, vM μ μ1 → m2_MT D ym cm nm rm (.ref kM :: as) μ1 (fun r' μ2 => r' = r ∧ vN n p ρ μ2 ∧ frM μ1 μ2)) : stp D yc cc nc rc ym cm nm rm as μ REL := by
  refine hc.mono ?_
  rintro r' μ1 ⟨rfl, h1, h2⟩
  refine (hm μ1 (h2.v vM.rf)).mono ?_
  rintro r'' μ2 ⟨rfl, h3, h4⟩
  exact ⟨rfl, n, p, (h1.vn h3).c h4.a⟩
/-- the class behind some LINES -/
theorem RLn.lines {ν μ μ1 : m2M} {n p : Nat} {s : m2M × Nat × Nat} (h : RLn ν μ n p) (hg : hGs (m2_si ν kM 19 0) n p s) (hf : hF μ μ1 n p) (hd : ∀ d, d < s.2.1 → eD s.1 μ1 d) (hq : ∀ q, q < s.2.2 → eP s.1 μ1 q) : RLn s.1 (m2_si (m2_si (m2_si μ1 kD 6 (nI s.2.1)) kP 8 (nI s.2.2)) kC 1 0) s.2.1 s.2.2 := by
  obtain ⟨h1, h2, h3, h4, h5, h6, h7, h8, ⟨h9, h10, h11⟩⟩ := id h
  obtain ⟨⟨a1, a2, a3, a4⟩, a5, a6, a7, a8, a9⟩ := hg
  obtain ⟨f1, f2, f3⟩ := hf
  -- the reference's cells
  have no : ∀ c j, c ≠ kM → ¬ (66 ≤ c ∧ c ≤ 79) → s.1.1 c j = ν.1 c j := fun c j z1 z2 => (a7 c j z1 (fun w => z2 ⟨w.1, by omega⟩) (fun w => z2 ⟨by omega, w.2.1⟩)).trans (by rw [si_nc _ _ _ z1])
  have np : ∀ c j, 72 ≤ c → c ≤ 79 → j < p → s.1.1 c j = ν.1 c j := by
    intro c j z1 z2 z3
    have e : kM = 65 := rfl
    exact (a7 c j (by omega) (fun w => by omega) (fun w => by omega)).trans (by rw [si_nc _ _ _ (by omega)])
  have nk : ∀ j, j ≠ 0 → j ≠ 7 → j ≠ 19 → s.1.1 kM j = ν.1 kM j := fun j z1 z2 z3 => (a8 j z1 z2).trans (si_nj _ _ _ z3)
  have n19 : s.1.1 kM 19 = 0 := (a8 19 (by decide) (by decide)).trans (si_at _ _ _ _)
  have n2 : s.1.2 = ν.2 := a9
  -- the class's
  generalize hM : m2_si (m2_si (m2_si μ1 kD 6 (nI s.2.1)) kP 8 (nI s.2.2)) kC 1 0 = M
  have M1 : ∀ c, c ≠ kD → c ≠ kP → c ≠ kC → M.1 c = μ1.1 c := fun c z1 z2 z3 => by rw [← hM, si_nc _ _ _ z3, si_nc _ _ _ z2, si_nc _ _ _ z1]
  have MD : ∀ j, j ≠ 6 → M.1 kD j = μ1.1 kD j := fun j z => by rw [← hM, si_nc _ _ _ (by decide), si_nc _ _ _ (by decide), si_nj _ _ _ z]
  have MC : ∀ j, j ≠ 1 → M.1 kC j = μ1.1 kC j := fun j z => by rw [← hM, si_nj _ _ _ z, si_nc _ _ _ (by decide), si_nc _ _ _ (by decide)]
  have M2 : M.2 = μ1.2 := by rw [← hM]; rfl
  have c1 : ∀ c j, c ≠ kH → ¬ (9 ≤ c ∧ c ≤ 14) → ¬ (16 ≤ c ∧ c ≤ 23) → μ1.1 c j = μ.1 c j := fun c j z1 z2 z3 => f1 c j z1 (fun w => z2 ⟨w.1, w.2.1⟩) (fun w => z3 ⟨w.1, w.2.1⟩)
  have cK : ∀ i k j, k < 5 → M.1 (kK i + k) j = μ.1 (kK i + k) j := by
    intro i k j hk
    have e : kK i = 107 + 5 * i := rfl
    have e1 : kD = 8 := rfl
    have e2 : kP = 15 := rfl
    have e3 : kC = 0 := rfl
    have e4 : kH = 24 := rfl
    rw [M1 _ (by omega) (by omega) (by omega)]
    exact c1 _ j (by omega) (by omega) (by omega)
  have cK0 : ∀ i j, M.1 (kK i) j = μ.1 (kK i) j := fun i j => cK i 0 j (by decide)
  refine ⟨⟨by rw [← hM]; rfl, a5, a2, fun d hd' => (hd d hd').z (fun _ _ _ => rfl) (fun c z1 z2 => ?_)⟩, ⟨by rw [← hM]; rfl, a6, a4, fun q hq' => ((hq q hq').z (fun _ _ _ => rfl) (fun c z1 z2 => ?_)).1⟩, ?_, ?_, ?_, ?_, ?_, ?_, ?_, ?_, ?_⟩
  · have e1 : kD = 8 := rfl
    have e2 : kP = 15 := rfl
    have e3 : kC = 0 := rfl
    rw [M1 c (by omega) (by omega) (by omega)]
  · have e1 : kD = 8 := rfl
    have e2 : kP = 15 := rfl
    have e3 : kC = 0 := rfl
    rw [M1 c (by omega) (by omega) (by omega)]
  · obtain ⟨t, t1, t2, t3, t4⟩ := h3
    refine ⟨0, by decide, by rw [← hM]; rfl, n19, fun i hi => ?_⟩
    rw [M1 kC_text (by decide) (by decide) (by decide), c1 kC_text i (by decide) (by decide) (by decide), no kM_text i (by decide) (by decide)]
    exact t4 i hi
  · obtain ⟨r, t1, t2, t3, t4⟩ := h4
    refine ⟨r, t1, ?_, (nk 21 (by decide) (by decide) (by decide)).trans t3, fun i hi => ?_⟩
    · rw [MC 3 (by decide), c1 kC 3 (by decide) (by decide) (by decide)]; exact t2
    · rw [M2, f3, n2]; exact t4 i hi
  · obtain ⟨t, t1, t2, t3, t4⟩ := h5
    refine ⟨t, t1, ?_, (nk 64 (by decide) (by decide) (by decide)).trans t3, fun i hi => ?_⟩
    · rw [MC 7 (by decide), c1 kC 7 (by decide) (by decide) (by decide)]; exact t2
    · rw [M1 kC_sayingMaid (by decide) (by decide) (by decide), M1 kC_sayingDoor (by decide) (by decide) (by decide), M1 kC_sayingNumber (by decide) (by decide) (by decide), c1 kC_sayingMaid i (by decide) (by decide) (by decide), c1 kC_sayingDoor i (by decide) (by decide) (by decide), c1 kC_sayingNumber i (by decide) (by decide) (by decide), no kM_saysWho i (by decide) (by decide), no kM_saysDoor i (by decide) (by decide), no kM_saysNumber i (by decide) (by decide)]
      obtain ⟨b1, b2, b3, b4, ⟨x, hx, b5⟩, b6⟩ := t4 i hi
      exact ⟨b1, b2, b3, b4, ⟨x, by omega, b5⟩, b6⟩
  · intro i hi
    obtain ⟨k1, k2, k3⟩ := h6 i hi
    rw [no kM_isKept i (by decide) (by decide), cK0]
    refine ⟨k1, k2, fun hk => ?_⟩
    obtain ⟨kn, kp, b1, b2, b3, b4, b5, b6, b7, b8, b9, b10⟩ := k3 hk
    refine ⟨kn, kp, ⟨by omega, b1.2⟩, ⟨by omega, b2.2⟩, (cK0 i 4).trans b3, (no kM_keptDoors i (by decide) (by decide)).trans b4, (cK0 i 5).trans b5, (no kM_keptPeople i (by decide) (by decide)).trans b6, ?_, ?_, fun d hd => ?_, fun w hw => ?_⟩
    · rw [cK0, no kM_put _ (by decide) (by decide)]; exact b7
    · rw [no kM_put _ (by decide) (by decide)]; exact b8
    · rw [cK i 1 d (by decide), no kM_put _ (by decide) (by decide)]; exact b9 d hd
    · rw [cK i 2 w (by decide), cK i 3 w (by decide), cK i 4 w (by decide), no kM_put _ (by decide) (by decide), no kM_put _ (by decide) (by decide), no kM_put _ (by decide) (by decide), np kM_errand w (by decide) (by decide) (by omega)]
      exact b10 w hw
  · refine ⟨?_, ?_⟩
    · rw [MD 7 (by decide), c1 kD 7 (by decide) (by decide) (by decide), nk 16 (by decide) (by decide) (by decide)]; exact h7.1
    · rw [nk 16 (by decide) (by decide) (by decide)]; exact h7.2
  · refine ⟨?_, ?_⟩
    · rw [M1 kW (by decide) (by decide) (by decide), c1 kW 6 (by decide) (by decide) (by decide), nk 17 (by decide) (by decide) (by decide)]; exact h8.1
    · rw [nk 17 (by decide) (by decide) (by decide)]; exact h8.2
  · obtain ⟨k, l, d1, d2, d3, d4, d5, d6, d7⟩ := h9
    have e : s.1.1 kM_price = ν.1 kM_price := funext fun j => no kM_price j (by decide) (by decide)
    have eE : ∀ j, M.1 kE j = μ.1 kE j := fun j => by rw [M1 kE (by decide) (by decide) (by decide)]; exact c1 kE j (by decide) (by decide) (by decide)
    have eC : ∀ j, M.1 kE_code j = μ.1 kE_code j := fun j => by rw [M1 kE_code (by decide) (by decide) (by decide)]; exact c1 kE_code j (by decide) (by decide) (by decide)
    exact ⟨k, l, d1, (nk 29 (by decide) (by decide) (by decide)).trans d2, by rw [e]; exact d3, d4, (eE 2).trans d5, fun i c q => (eC i).trans (d6 i c q), (eE 3).trans d7⟩
  · intro p' q e hp' hq'
    have e : nI p' = nI s.2.2 := e.symm.trans a6
    have hpp := (nI_eq (by omega) (by omega)).mp e
    exact (hq q (by omega)).2
  · intro i kp q hi e1 e2 hkp hq'
    have e1' : ν.1 kM_isKept i = 1 := (no kM_isKept i (by decide) (by decide)).symm.trans e1
    have e2' : ν.1 kM_keptPeople i = nI kp := (no kM_keptPeople i (by decide) (by decide)).symm.trans e2
    obtain ⟨kn, kp2, b1, b2, b3, b4, b5, b6, _⟩ := (h6 i hi).2.2 e1'
    have : nI kp = nI kp2 := e2'.symm.trans b6
    have := (nI_eq (by omega) (by omega)).mp this
    rw [no kM_put _ (by decide) (by decide), no kM_put _ (by decide) (by decide), no kM_put _ (by decide) (by decide), np kM_errand q (by decide) (by decide) (by omega), np kM_comesBack q (by decide) (by decide) (by omega), np kM_home q (by decide) (by decide) (by omega)]
    exact h11 i kp q hi e1' e2' hkp hq'
theorem hN.f {μ μ1 μ' : m2M} {n p n1 : Nat} (h : hF μ μ1 n p) (q : hN n1 μ1 μ') (hn : n ≤ n1) : hF μ μ' n p := by
  have e : kH = 24 := rfl
  refine ⟨fun c j z1 z2 z3 => ?_, fr.tr h.2.1 (fr.mo q.1 (fun c hc => ?_)), (q.1 kC_row rfl).2.trans h.2.2⟩
  · by_cases w : 9 ≤ c ∧ c ≤ 14
    · rw [q.2.1 c j w.1 w.2 (fun e => z2 ⟨w.1, w.2, by omega⟩)]
      exact h.1 c j z1 z2 z3
    · rw [(q.1 c ?_).1]
      · exact h.1 c j z1 z2 z3
      · simp only [Bool.or_eq_false_iff, beq_eq_false_iff_ne, Bool.and_eq_false_iff]
        refine ⟨z1, ?_⟩
        by_cases w1 : 9 ≤ c
        · exact Or.inr (ble_f (by omega))
        · exact Or.inl (ble_f (by omega))
  · have hc : (!isM c) = false := hc
    have h65 : 65 ≤ c := by
      apply Classical.byContradiction
      intro z
      have : isM c = false := by unfold isM; rw [ble_f (by omega)]; rfl
      rw [this] at hc
      cases hc
    simp only [Bool.or_eq_false_iff, beq_eq_false_iff_ne, Bool.and_eq_false_iff]
    exact ⟨by omega, Or.inr (ble_f (by omega))⟩
theorem hO1.f {μ μ1 μ' : m2M} {n p p1 : Nat} (h : hF μ μ1 n p) (q : hO1 p1 μ1 μ') (hn : p ≤ p1) : hF μ μ' n p := by
  have e : kH = 24 := rfl
  refine ⟨fun c j z1 z2 z3 => ?_, fr.tr h.2.1 (fr.mo q.1 (fun c hc => ?_)), (q.1 kC_row rfl).2.trans h.2.2⟩
  · by_cases w : 16 ≤ c ∧ c ≤ 23
    · rw [q.2.1 c j w.1 w.2 (fun e => z3 ⟨w.1, w.2, by omega⟩)]
      exact h.1 c j z1 z2 z3
    · rw [(q.1 c ?_).1]
      · exact h.1 c j z1 z2 z3
      · simp only [Bool.or_eq_false_iff, beq_eq_false_iff_ne, Bool.and_eq_false_iff]
        refine ⟨z1, ?_⟩
        by_cases w1 : 16 ≤ c
        · exact Or.inr (ble_f (by omega))
        · exact Or.inl (ble_f (by omega))
  · have hc : (!isM c) = false := hc
    have h65 : 65 ≤ c := by
      apply Classical.byContradiction
      intro z
      have : isM c = false := by unfold isM; rw [ble_f (by omega)]; rfl
      rw [this] at hc
      cases hc
    simp only [Bool.or_eq_false_iff, beq_eq_false_iff_ne, Bool.and_eq_false_iff]
    exact ⟨by omega, Or.inr (ble_f (by omega))⟩
theorem hF.h {μ μ1 : m2M} {n p j : Nat} {x : Int32} (h : hF μ μ1 n p) : hF μ (m2_si μ1 kH j x) n p := ⟨fun c i z1 z2 z3 => by rw [si_nc _ _ _ z1]; exact h.1 c i z1 z2 z3, fr_si rfl h.2.1, h.2.2⟩
theorem S_readLineC {D k a n p : Nat} {g : Nat → Int32} {s : m2M × Nat × Nat} (hD : 4 ≤ D) (ν μ μ1 : m2M) (hg : hGs ν n p s) (hf : hF μ μ1 n p) (hl : hL1 μ1 s) (tx : txC μ1 g) (h3 : μ1.1 kH 3 = nI (min k 76)) (h4 : μ1.1 kH 4 = nI a) (ha : a ≤ 76) : m2_MT D yX2_readLine cX2_readLine 1 (some .boolean) [.ref kH] μ1 (fun r μ' => r = some (.int (if (rdL (cp_hT 76 g k) a s).1 = true then 1 else 0)) ∧ μ'.1 kH 4 = nI (rdL (cp_hT 76 g k) a s).2.1 ∧ μ'.1 kH 3 = nI (min k 76) ∧ hF μ μ' n p ∧ ((rdL (cp_hT 76 g k) a s).1 = true → hL1 μ' (rdL (cp_hT 76 g k) a s).2.2)) := by
  obtain ⟨D, rfl⟩ : ∃ E, D = E + 1 := ⟨D - 1, by omega⟩
  obtain ⟨⟨a1, a2, a3, a4⟩, a5, a6, a7, a8, a9⟩ := hg
  obtain ⟨l1, l2, l3, l4⟩ := hl
  refine m2_MT.intro (ls := [.ref kH]) (by decide +kernel) rfl (ble rfl) (fun κ hk => ?_)
  have sd : fX2_stands 100 μ1 = 1 ↔ cp_hT 76 g k a = 100 := stands_iff (c := 100) tx h3 h4 ha (by decide)
  have sp : fX2_stands 112 μ1 = 1 ↔ cp_hT 76 g k a = 112 := stands_iff (c := 112) tx h3 h4 ha (by decide)
  have sst : fX2_stands 115 μ1 = 1 ↔ cp_hT 76 g k a = 115 := stands_iff (c := 115) tx h3 h4 ha (by decide)
  generalize hRL : rdL (cp_hT 76 g k) a s = RL at hk
  unfold rdL at hRL
  -- one of PEOPLE
  have one : (cp_hT 76 g k a = 112 ∨ cp_hT 76 g k a = 115) → (8 ≤ (μ1.1 kH 7) → (some (Value.int 0) = some (.int (if RL.1 = true then 1 else 0)) ∧ μ1.1 kH 4 = nI RL.2.1 ∧ μ1.1 kH 3 = nI (min k 76) ∧ hF μ μ1 n p ∧ (RL.1 = true → hL1 μ1 RL.2.2))) ∧ (¬ 8 ≤ (μ1.1 kH 7) → ∃ Q22 : Option Value → m2M → Prop, m2_MT D yX2_readPerson cX2_readPerson 3 (some .boolean) [.ref kH, .int (μ1.1 kH 7)] μ1 Q22 ∧ ∀ (y20 : Int32) (μ21 : m2M), Q22 (some (.int y20)) μ21 → (some (Value.int (if y20 = 0 then 0 else 1 : Int32)) = some (.int (if RL.1 = true then 1 else 0)) ∧ μ21.1 kH 4 = nI RL.2.1 ∧ μ21.1 kH 3 = nI (min k 76) ∧ hF μ μ21 n p ∧ (RL.1 = true → hL1 μ21 RL.2.2))) := by
    intro hs
    have hlt : a < 76 := by rcases hs with z | z; exact hT_76 (c := 112) z (by decide); exact hT_76 (c := 115) z (by decide)
    have n100 : ¬ (cp_hT 76 g k a = 100 ∧ s.2.1 < 20) := by
      rintro ⟨z, _⟩
      rcases hs with w | w
      · rw [w] at z; exact absurd z (by decide)
      · rw [w] at z; exact absurd z (by decide)
    rw [if_neg n100] at hRL
    rw [l4]
    refine pk_le 8 s.2.2 (fun w => ?_) (fun w => ?_) rfl rfl (by decide) (by omega)
    · rw [if_neg (fun z => by omega)] at hRL
      subst hRL
      exact ⟨rfl, h4, h3, hf, fun z => absurd z (by simp)⟩
    · rw [if_pos ⟨hs, w⟩] at hRL
      refine ⟨_, S_readPersonC (k := k) (by omega) μ1 tx h3 h4 hlt w l4, fun y20 μ21 r21 => ?_⟩
      obtain ⟨q1, q2, q3, q4⟩ := r21
      have ok := (rdO_ok (g := g) (k := k) (a := a + 1) (by omega)).2
      by_cases z : (rdO (cp_hT 76 g k) (a + 1)).1 = true
      · rw [if_pos z] at hRL
        obtain ⟨b0, b1, b2, b3, b4, b5, b6, b7, b8, b9⟩ := q3 z
        obtain ⟨v1, v2, v3, v4⟩ := ok z
        cases b0
        subst hRL
        refine ⟨rfl, q2, q1.2.2.1.trans h3, q1.f hf a3, fun _ => ⟨fun d hd => (l1 d hd).z (fun c c1 c2 => adO_o (by have : kM = 65 := rfl; omega) (by omega)) (fun c c1 c2 => ?_), fun q hq => ?_, q1.2.2.2.trans l3, b1⟩⟩
        · have e : kH = 24 := rfl
          rw [(q1.1 c ?_).1]
          simp only [Bool.or_eq_false_iff, beq_eq_false_iff_ne, Bool.and_eq_false_iff]
          exact ⟨by omega, Or.inl (ble_f (by omega))⟩
        · have hq : q < s.2.2 + 1 := hq
          by_cases e : q = s.2.2
          · subst e
            obtain ⟨d1, d2, d3, d4, d5, d6, d7, d8⟩ := adO_n (ν := s.1) (n1 := s.2.2) (s := if cp_hT 76 g k a = 115 then 1 else 0) (R := (rdO (cp_hT 76 g k) (a + 1)).2.2)
            show eP (adO s.1 s.2.2 (if cp_hT 76 g k a = 115 then 1 else 0) (rdO (cp_hT 76 g k) (a + 1)).2.2) μ21 s.2.2
            unfold eP
            rw [d1, d2, d3, d4, d5, d6, d7, d8, b2, b3, b4, b5, b6, b7, b8, b9]
            have bst : b01 (if cp_hT 76 g k a = 115 then (1 : Int32) else 0) := by
              by_cases z : cp_hT 76 g k a = 115
              · rw [if_pos z]; exact Or.inr rfl
              · rw [if_neg z]; exact Or.inl rfl
            have brr : b01 (if (rdO (cp_hT 76 g k) (a + 1)).2.2.2.2.1 = (rdO (cp_hT 76 g k) (a + 1)).2.2.1 then (1 : Int32) else 0) := by
              by_cases z : (rdO (cp_hT 76 g k) (a + 1)).2.2.2.2.1 = (rdO (cp_hT 76 g k) (a + 1)).2.2.1
              · rw [if_pos z]; exact Or.inr rfl
              · rw [if_neg z]; exact Or.inl rfl
            refine ⟨⟨⟨rfl, rfl, rfl, rfl, rfl, rfl, rfl, rfl⟩, v1, v1, bst, v2, v3, v4, brr, brr, fun ze => ?_⟩, fun ze => ⟨fun zw => if_pos zw.symm, fun zt _ => zt⟩⟩
            have : ¬ (rdO (cp_hT 76 g k) (a + 1)).2.2.2.2.1 = (rdO (cp_hT 76 g k) (a + 1)).2.2.1 := by
              intro zz
              obtain ⟨x, hx, ex⟩ := v1
              rw [ze, ex] at zz
              exact nI_ne_m1 (by omega) zz.symm
            rw [if_neg this]
            exact ⟨rfl, rfl⟩
          · refine (l2 q (by omega)).z (fun c c1 c2 => adO_o (by have : kM = 65 := rfl; omega) (by omega)) (fun c c1 c2 => q1.2.1 c q c1 c2 e)
      · rw [if_neg z] at hRL
        have zf : (rdO (cp_hT 76 g k) (a + 1)).1 = false := by
          cases ee : (rdO (cp_hT 76 g k) (a + 1)).1 with
          | true => exact absurd ee z
          | false => rfl
        obtain ⟨b0, b1⟩ := q4 zf
        cases b0
        subst hRL
        exact ⟨rfl, q2, q1.2.2.1.trans h3, q1.f hf a3, fun z => absurd z (by simp)⟩
  refine B_X2_readLine_0 hk (Nat.zero_le _) ⟨st_in h3 h4 ha, fun w1 => ?_, fun w1 => ⟨fun w2 => one (Or.inl (sp.mp w2)), fun w2 => ⟨fun w3 => one (Or.inr (sst.mp w3)), fun w3 => ?_⟩⟩⟩
  · have hc := sd.mp w1
    have hlt := hT_76 (c := 100) hc (by decide)
    rw [l3]
    refine pk_le 20 s.2.1 (fun w => ?_) (fun w => ?_) rfl rfl (by decide) (by omega)
    · rw [if_neg (fun z => by omega), if_neg (by rintro ⟨z | z, _⟩ <;> rw [hc] at z <;> exact absurd z (by decide))] at hRL
      subst hRL
      exact ⟨rfl, h4, h3, hf, fun z => absurd z (by simp)⟩
    · rw [if_pos ⟨hc, w⟩] at hRL
      refine ⟨_, S_readDoorC (k := k) (by omega) μ1 tx h3 h4 hlt w l3, fun y7 μ8 r8 => ?_⟩
      obtain ⟨q1, q2, q3, q4⟩ := r8
      have ok := (rdD_ok (g := g) (k := k) (a := a + 1) (by omega)).2
      by_cases z : (rdD (cp_hT 76 g k) (a + 1)).1 = true
      · rw [if_pos z] at hRL
        obtain ⟨b0, b1, b2, b3, b4, b5, b6, b7⟩ := q3 z
        obtain ⟨_, v1, v2, v3, v4, v5, v6⟩ := ok z
        cases b0
        subst hRL
        refine ⟨rfl, q2, q1.2.2.1.trans h3, q1.f hf a1, fun _ => ⟨fun d hd => ?_, fun q hq => (l2 q hq).z (fun c c1 c2 => adD_o (by have : kM = 65 := rfl; omega) (by omega)) (fun c c1 c2 => ?_), b1, q1.2.2.2.trans l4⟩⟩
        · have hd : d < s.2.1 + 1 := hd
          by_cases e : d = s.2.1
          · subst e
            obtain ⟨d1, d2, d3, d4, d5, d6⟩ := adD_n (ν := s.1) (n1 := s.2.1) (R := (rdD (cp_hT 76 g k) (a + 1)).2.2)
            show eD (adD s.1 s.2.1 (rdD (cp_hT 76 g k) (a + 1)).2.2) μ8 s.2.1
            unfold eD
            rw [d1, d2, d3, d4, d5, d6, b2, b3, b4, b5, b6, b7]
            exact ⟨⟨rfl, rfl, rfl, rfl, rfl, rfl⟩, v1, v2, v3, v4, v5, v5, v6⟩
          · exact (l1 d (by omega)).z (fun c c1 c2 => adD_o (by have : kM = 65 := rfl; omega) (by omega)) (fun c c1 c2 => q1.2.1 c d c1 c2 e)
        · have e : kH = 24 := rfl
          rw [(q1.1 c ?_).1]
          simp only [Bool.or_eq_false_iff, beq_eq_false_iff_ne, Bool.and_eq_false_iff]
          exact ⟨by omega, Or.inr (ble_f (by omega))⟩
      · rw [if_neg z] at hRL
        have zf : (rdD (cp_hT 76 g k) (a + 1)).1 = false := by
          cases ee : (rdD (cp_hT 76 g k) (a + 1)).1 with
          | true => exact absurd ee z
          | false => rfl
        obtain ⟨b0, b1⟩ := q4 zf
        cases b0
        subst hRL
        exact ⟨rfl, q2, q1.2.2.1.trans h3, q1.f hf a1, fun z => absurd z (by simp)⟩
  · have z1 : ¬ cp_hT 76 g k a = 100 := fun z => w1 (sd.mpr z)
    rw [if_neg (fun z => z1 z.1), if_neg (by rintro ⟨z | z, _⟩; exact w2 (sp.mpr z); exact w3 (sst.mpr z))] at hRL
    subst hRL
    exact ⟨rfl, h4, h3, hf, fun z => absurd z (by simp)⟩
