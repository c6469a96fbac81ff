theorem vM_ad {ν μ : m2M} {n1 : Nat} {R : Int32 × Int32 × Int32 × Int32 × Int32} (h : vM ν μ) : vM (adD ν n1 R) (adD μ n1 R) := (((((((h.si rfl).si rfl).si rfl).si rfl).si rfl).si rfl)).si rfl
theorem vM_ao {ν μ : m2M} {n1 : Nat} {s : Int32} {R : Int32 × Int32 × Int32 × Int32} (h : vM ν μ) : vM (adO ν n1 s R) (adO μ n1 s R) := (vM_gA ((((((((h.si rfl).si rfl).si rfl).si rfl).si rfl).si rfl).si rfl).si rfl)).si rfl
theorem hGs.vn {ν : m2M} {n p : Nat} {s : m2M × Nat × Nat} {μ1 M : m2M} (hg : hGs ν n p s) (hv : vM s.1 μ1) (hx : ∀ c j, isM c = true → c ≠ kM → ¬ (66 ≤ c ∧ c ≤ 71 ∧ n ≤ j) → ¬ (72 ≤ c ∧ c ≤ 79 ∧ p ≤ j) → M.1 c j = μ1.1 c j) (hk : ∀ j, scr kM j = false → j ≠ 0 → j ≠ 7 → M.1 kM j = μ1.1 kM j) (h0 : M.1 kM 0 = nI n) (h7 : M.1 kM 7 = nI p) (hn : ν.1 kM 0 = nI n) (hp : ν.1 kM 7 = nI p) (h2 : ∀ j, M.2 kM_row j = μ1.2 kM_row j) : vN n p ν M := by
  obtain ⟨_, a5, a6, a7, a8, a9⟩ := hg
  refine ⟨fun c j z1 z2 z3 z4 => ?_, fun r j z1 z2 z3 => ?_⟩
  · by_cases e : c = kM
    · subst e
      by_cases e0 : j = 0
      · subst e0; rw [h0, hn]
      · by_cases e7 : j = 7
        · subst e7; rw [h7, hp]
        · rw [hk j z2 e0 e7, hv.1 kM j z1 z2]
          exact a8 j e0 e7
    · rw [hx c j z1 e z3 z4, hv.1 c j z1 z2]
      exact a7 c j e z3 z4
  · rw [h2 j, hv.2 r j ((a8 21 (by decide) (by decide)).trans z1) z2 z3, a9]
theorem rdC_of {M M' : m2M} {g : Nat → Int32} {k : Nat} (h : rdC M g k 76) (hk : ∀ j, j ≠ 0 → j ≠ 7 → j ≠ 26 → j ≠ 27 → M'.1 kM j = M.1 kM j) (ht : M'.1 kM_text = M.1 kM_text) : rdC M' g k 76 := by
  obtain ⟨⟨r1, r2, r3, r4⟩, r5⟩ := h
  refine ⟨⟨(hk 24 (by decide) (by decide) (by decide) (by decide)).trans r1, r2, (hk 25 (by decide) (by decide) (by decide) (by decide)).trans r3, r4⟩, ?_⟩
  rcases r5 with ⟨r5, r6⟩ | ⟨_, _, r7⟩
  · exact Or.inl ⟨(hk 23 (by decide) (by decide) (by decide) (by decide)).trans r5, r6.trans ht.symm⟩
  · exact absurd r7 (by decide)
theorem ps_tx (M : m2M) (a : Nat) (w : Int32) : (ps M a w).1 kM_text = M.1 kM_text := by
  unfold ps
  rw [si_nc _ _ _ (by decide), si_nc _ _ _ (by decide)]
theorem rdC_ps {M : m2M} {g : Nat → Int32} {k a : Nat} {w : Int32} (h : rdC M g k 76) : rdC (ps M a w) g k 76 := rdC_of h (fun j _ _ h1 h2 => ps_k h1 h2) (ps_tx M a w)
theorem adD_tx (M : m2M) (n1 : Nat) (R : Int32 × Int32 × Int32 × Int32 × Int32) : (adD M n1 R).1 kM_text = M.1 kM_text := by
  funext j
  exact adD_o (by decide) (fun z => absurd z.2.1 (by decide))
theorem adO_tx (M : m2M) (n1 : Nat) (s : Int32) (R : Int32 × Int32 × Int32 × Int32) : (adO M n1 s R).1 kM_text = M.1 kM_text := by
  funext j
  exact adO_o (by decide) (fun z => absurd z.2.1 (by decide))
theorem rdC_ad {M : m2M} {g : Nat → Int32} {k n1 : Nat} {R : Int32 × Int32 × Int32 × Int32 × Int32} (h : rdC M g k 76) : rdC (adD M n1 R) g k 76 := rdC_of h (fun j h0 _ _ _ => adD_k h0) (adD_tx M n1 R)
theorem rdC_ao {M : m2M} {g : Nat → Int32} {k n1 : Nat} {s : Int32} {R : Int32 × Int32 × Int32 × Int32} (h : rdC M g k 76) : rdC (adO M n1 s R) g k 76 := rdC_of h (fun j _ h7 _ _ => adO_k h7) (adO_tx M n1 s R)
theorem frM_ad {ρ M : m2M} {n1 : Nat} {R : Int32 × Int32 × Int32 × Int32 × Int32} (h : frM ρ M) : frM ρ (adD M n1 R) := fr_si rfl (fr_si rfl (fr_si rfl (fr_si rfl (fr_si rfl (fr_si rfl (fr_si rfl h))))))
theorem frM_ao {ρ M : m2M} {n1 : Nat} {s : Int32} {R : Int32 × Int32 × Int32 × Int32} (h : frM ρ M) : frM ρ (adO M n1 s R) := fr_si rfl (fr_si rfl (fr_si rfl (fr_si rfl (fr_si rfl (fr_si rfl (fr_si rfl (fr_si rfl (fr_si rfl (fr_si rfl (fr_si rfl (fr_si rfl h)))))))))))
theorem frM_ps {ρ M : m2M} {a : Nat} {w : Int32} (h : frM ρ M) : frM ρ (ps M a w) := fr_si rfl (fr_si rfl h)
theorem ps_26v (M : m2M) (a : Nat) (w : Int32) : (ps M a w).1 kM 26 = nI a := rfl
theorem ps_27v (M : m2M) (a : Nat) (w : Int32) : (ps M a w).1 kM 27 = w := rfl
theorem vM_ps {ρ M : m2M} {a : Nat} {w : Int32} (h : vM ρ M) : vM ρ (ps M a w) := vM_si rfl (vM_si rfl h)
theorem hF.at {μ μ1 : m2M} {n p : Nat} (h : hF μ μ1 n p) {c : Nat} (j : Nat) (h1 : c ≠ kH) (h2 : ¬ (9 ≤ c ∧ c ≤ 14)) (h3 : ¬ (16 ≤ c ∧ c ≤ 23)) : μ1.1 c j = μ.1 c j := h.1 c j h1 (fun w => h2 ⟨w.1, w.2.1⟩) (fun w => h3 ⟨w.1, w.2.1⟩)
theorem hF.tx {μ μ1 : m2M} {n p : Nat} {g : Nat → Int32} (h : hF μ μ1 n p) (t : txC μ g) : txC μ1 g := t.of (funext fun j => h.at j (by decide) (by decide) (by decide))
theorem S_passesW {D : Nat} {c : Int32} (hD : 1 ≤ D) (M : m2M) (h : M.1 kM 27 ≠ -1) : m2_MT D yX12_passes cX12_passes 2 (some .boolean) [.ref kM, .int c] M (fun r μ' => r = some (.int 0) ∧ μ' = M) := by
  obtain ⟨D, rfl⟩ : ∃ E, D = E + 1 := ⟨D - 1, by omega⟩
  refine m2_MT.intro (ls := [.ref kM, .int c]) (by decide +kernel) rfl (ble rfl) (fun κ hk => ?_)
  exact B_X12_passes_0 hk (Nat.zero_le _) ⟨fun z => absurd z (by unfold fX12_fine; rw [if_neg h]; decide), fun _ => ⟨rfl, rfl⟩⟩
theorem S_faultW {D : Nat} {x : Int32} (hD : 1 ≤ D) (M : m2M) (h : M.1 kM 27 ≠ -1) : m2_MT D yX12_fault cX12_fault 2 none [.ref kM, .int x] M (fun _ μ' => μ' = M) := by
  obtain ⟨D, rfl⟩ : ∃ E, D = E + 1 := ⟨D - 1, by omega⟩
  refine m2_MT.intro (ls := [.ref kM, .int x]) (by decide +kernel) rfl (ble rfl) (fun κ hk => ?_)
  exact B_X12_fault_0 hk (Nat.zero_le _) ⟨fun z => absurd z (by unfold fX12_fine; rw [if_neg h]; decide), fun _ => rfl⟩
set_option maxHeartbeats 4000000 in
theorem T_house {D : Nat} (hD : 6 ≤ D) (μ : m2M) (h : REL μ) : stp D yX11_house cX11_house 2 (some .int) yX12_house cX12_house 6 (some .int) [] μ REL := by
  obtain ⟨D, rfl⟩ : ∃ E, D = E + 1 := ⟨D - 1, by omega⟩
  obtain ⟨n, p, hR⟩ := id h
  have hR : RLn μ μ n p := hR
  have hn := hR.n20
  have hp := hR.p8
  obtain ⟨k, k1, k2, k3, k4⟩ := hR.2.2.1
  have tx0 : txC μ (μ.1 kM_text) := k4
  generalize hg0 : μ.1 kM_text = g at tx0
  generalize hs0 : ((m2_si μ kM 19 0, n, p) : m2M × Nat × Nat) = s0
  have G0 : hGs (m2_si μ kM 19 0) n p s0 := by
    subst hs0
    exact ⟨⟨Nat.le_refl n, hn, Nat.le_refl p, hp⟩, hR.1.2.1, hR.2.1.2.1, fun _ _ _ _ _ => rfl, fun _ _ _ => rfl, rfl⟩
  generalize hT : rdT (cp_hT 76 g k) k s0 = T
  -- a wrong text changes nothing
  have wrongC : ∀ μ1, hF μ μ1 n p → RLn (m2_si μ kM 19 0) (m2_si μ1 kC 1 0) n p := by
    intro μ1 hf
    have key := RLn.lines (s := s0) hR G0 hf (fun d hd => ?_) (fun q hq => ?_)
    · subst hs0
      have e1 : μ1.1 kD 6 = nI n := (hf.at 6 (by decide) (by decide) (by decide)).trans hR.1.1
      have e2 : μ1.1 kP 8 = nI p := (hf.at 8 (by decide) (by decide) (by decide)).trans hR.2.1.1
      rw [m2_si_id e1, m2_si_id e2] at key
      exact key
    · subst hs0
      have hd : d < n := hd
      exact (hR.dd hd).z (fun c c1 c2 => by show (m2_si μ kM 19 0).1 c d = _; rw [si_nc _ _ _ (by have : kM = 65 := rfl; omega)]) (fun c c1 c2 => hf.1 c d (by have : kH = 24 := rfl; omega) (by omega) (by omega))
    · subst hs0
      have hq : q < p := hq
      exact (hR.pp hq).z (fun c c1 c2 => by show (m2_si μ kM 19 0).1 c q = _; rw [si_nc _ _ _ (by have : kM = 65 := rfl; omega)]) (fun c c1 c2 => hf.1 c q (by have : kH = 24 := rfl; omega) (by omega) (by omega))
  refine T_of2 (if T.1 = true then some (.int (nI T.2.2.2)) else some (.int (-1 - nI T.2.1))) (if T.1 = true then T.2.2.1.1 else m2_si μ kM 19 0) (if T.1 = true then T.2.2.1.2.1 else n) (if T.1 = true then T.2.2.1.2.2 else p) ?_ (fun ν hv => ?_)
  · refine m2_MT.intro (ls := [.ref kC, .null]) (by decide +kernel) rfl (ble rfl) (fun κ hk => ?_)
    refine B_X11_house_0 hk ?_
    rw [k2]
    refine ⟨fun r μ' => (T.1 = true ∧ r = some (.int (nI T.2.2.2)) ∧ ∃ μ1, hF μ μ1 n p ∧ hL1 μ1 T.2.2.1 ∧ hGs (m2_si μ kM 19 0) n p T.2.2.1 ∧ μ' = m2_si (m2_si μ1 kD 6 (nI T.2.2.1.2.1)) kP 8 (nI T.2.2.1.2.2)) ∨ (T.1 = false ∧ r = some (.int (-1 - nI T.2.1)) ∧ hF μ μ' n p), ?_, fun y1 μ2 r2 => ?_⟩
    · obtain ⟨D, rfl⟩ : ∃ E, D = E + 1 := ⟨D - 1, by omega⟩
      refine m2_MT.intro (ls := [.ref kH, .int (nI k), .null, .null, .null]) (by decide +kernel) rfl (ble rfl) (fun κ' hk' => ?_)
      refine B_X2_read_0 hk' (Nat.zero_le _) ?_
      have emin : m2_min (nI k) 76 = nI (min k 76) := by
        unfold m2_min
        by_cases z : 76 < k
        · rw [if_pos (show (76 : Int32) < nI k from nI_lt (a := 76) z (by omega)), show min k 76 = 76 by omega]; rfl
        · rw [if_neg (show ¬ (76 : Int32) < nI k from nI_nlt (a := 76) (b := k) (by omega) (by decide)), show min k 76 = k by omega]
      rw [emin, hR.1.1, hR.2.1.1]
      -- the state at the loop's head, all well so far
      have good : ∀ (a : Nat) (M : m2M), M.1 kH 4 = nI a → T.1 = true → hF μ M n p → hL1 M T.2.2.1 → hGs (m2_si μ kM 19 0) n p T.2.2.1 → ((T.1 = true ∧ some (Value.int (nI T.2.2.2)) = some (.int (nI T.2.2.2)) ∧ ∃ μ1, hF μ μ1 n p ∧ hL1 μ1 T.2.2.1 ∧ hGs (m2_si μ kM 19 0) n p T.2.2.1 ∧ m2_si (m2_si M kD 6 (M.1 kH 6)) kP 8 (M.1 kH 7) = m2_si (m2_si μ1 kD 6 (nI T.2.2.1.2.1)) kP 8 (nI T.2.2.1.2.2)) ∨ (T.1 = false ∧ some (Value.int (nI T.2.2.2)) = some (.int (-1 - nI T.2.1)) ∧ hF μ (m2_si (m2_si M kD 6 (M.1 kH 6)) kP 8 (M.1 kH 7)) n p)) := by
        intro a M _ t1 f1 l1 g1
        exact Or.inl ⟨t1, rfl, M, f1, l1, g1, by rw [l1.2.2.1, l1.2.2.2]⟩
      have bad : ∀ (M : m2M), M.1 kH 4 = nI T.2.1 → T.1 = false → hF μ M n p → ((T.1 = true ∧ some (Value.int ((-1 : Int32) - M.1 kH 4)) = some (.int (nI T.2.2.2)) ∧ ∃ μ1, hF μ μ1 n p ∧ hL1 μ1 T.2.2.1 ∧ hGs (m2_si μ kM 19 0) n p T.2.2.1 ∧ M = m2_si (m2_si μ1 kD 6 (nI T.2.2.1.2.1)) kP 8 (nI T.2.2.1.2.2)) ∨ (T.1 = false ∧ some (Value.int ((-1 : Int32) - M.1 kH 4)) = some (.int (-1 - nI T.2.1)) ∧ hF μ M n p)) := by
        intro M m4 t1 f1
        exact Or.inr ⟨t1, by rw [m4], f1⟩
      -- a LINE was wrong
      have stop : ∀ (M : m2M) (v2 v4 : Int32), M.1 kH 4 = nI T.2.1 → T.1 = false → hF μ M n p → κ' 44 [.ref kH, .int (nI k), .int v2, .int 0, .int v4] [] M := by
        intro M v2 v4 m4 t1 f1
        have b := bad M m4 t1 f1
        exact B_X2_read_44 hk' ⟨fun _ => ⟨fun _ => b, fun w => absurd rfl w⟩, fun _ => ⟨fun _ => ⟨fun _ => b, fun w => absurd rfl w⟩, fun w => absurd rfl w⟩⟩
      have loop : ∀ (f a c : Nat) (s : m2M × Nat × Nat) (M : m2M), a ≤ 76 → 78 ≤ a + f → 1 ≤ c → c ≤ a → hGs (m2_si μ kM 19 0) n p s → hF μ M n p → hL1 M s → M.1 kH 3 = nI (min k 76) → M.1 kH 4 = nI a → rdA (cp_hT 76 g k) k f a s c = T → κ' 44 [.ref kH, .int (nI k), .int (nI c), .int 1, .int (nI c)] [] M := by
        intro f
        induction f with
        | zero => intro a c s M ha hfu; omega
        | succ f ih =>
          intro a c s M ha hfu hc1 hca hG f1 l1 m3 m4 hr
          have tx : txC M g := f1.tx tx0
          unfold rdA at hr
          by_cases z : min k 76 ≤ a
          · -- the text is at its end
            rw [hT_out z, if_neg (by decide)] at hr
            have fin : (¬ (1 : Int32) = 0 → (nI k ≤ 76 → ((T.1 = true ∧ some (Value.int (nI c)) = some (.int (nI T.2.2.2)) ∧ ∃ μ1, hF μ μ1 n p ∧ hL1 μ1 T.2.2.1 ∧ hGs (m2_si μ kM 19 0) n p T.2.2.1 ∧ m2_si (m2_si M kD 6 (M.1 kH 6)) kP 8 (M.1 kH 7) = m2_si (m2_si μ1 kD 6 (nI T.2.2.1.2.1)) kP 8 (nI T.2.2.1.2.2)) ∨ (T.1 = false ∧ some (Value.int (nI c)) = some (.int (-1 - nI T.2.1)) ∧ hF μ (m2_si (m2_si M kD 6 (M.1 kH 6)) kP 8 (M.1 kH 7)) n p))) ∧ (¬ nI k ≤ 76 → ((T.1 = true ∧ some (Value.int ((-1 : Int32) - M.1 kH 4)) = some (.int (nI T.2.2.2)) ∧ ∃ μ1, hF μ μ1 n p ∧ hL1 μ1 T.2.2.1 ∧ hGs (m2_si μ kM 19 0) n p T.2.2.1 ∧ M = m2_si (m2_si μ1 kD 6 (nI T.2.2.1.2.1)) kP 8 (nI T.2.2.1.2.2)) ∨ (T.1 = false ∧ some (Value.int ((-1 : Int32) - M.1 kH 4)) = some (.int (-1 - nI T.2.1)) ∧ hF μ M n p)))) := by
              intro _
              refine pk_le k 76 (fun w => ?_) (fun w => ?_) rfl rfl (by omega) (by decide)
              · rw [if_pos (show k ≤ a by omega)] at hr
                subst hr
                exact good a M m4 rfl f1 l1 hG
              · rw [if_neg (show ¬ k ≤ a by omega)] at hr
                subst hr
                exact bad M m4 rfl f1
            refine B_X2_read_44 hk' ⟨fun _ => ⟨fun w => absurd w (by decide), fin⟩, fun _ => ⟨fun w => absurd w (by decide), fun _ => ⟨fun _ => ⟨fun w => absurd w (by decide), fin⟩, fun w => absurd (by rw [m3, m4]; exact nI_le z (by omega)) w⟩⟩⟩
          · refine B_X2_read_44 hk' ⟨fun w => absurd w (nI_ge (b := 76) (by omega) (by decide)), fun _ => ⟨fun w => absurd w (by decide), fun _ => ⟨fun w => absurd (by rw [m3, m4] at w; exact w) (nI_ge (by omega) (by omega)), fun _ => ⟨fun w => absurd w (nI_ne0 (by omega) (by omega)), fun _ => ?_⟩⟩⟩⟩
            refine ⟨_, S_takes (k := k) (c := 59) (by omega) M tx m3 m4 ha (by decide), fun y18 μ19 r19 => ?_⟩
            rcases r19 with ⟨za, zb, zc⟩ | ⟨za, zb, zc⟩
            · cases zb
              have za : cp_hT 76 g k a = 59 := za
              have hlt := hT_76 (c := 59) za (by decide)
              rw [if_pos za] at hr
              refine ⟨fun w => absurd w (by decide), fun _ => ?_⟩
              have f2 : hF μ μ19 n p := by rw [zc]; exact f1.h
              have l2 : hL1 μ19 s := by
                rw [zc]
                exact ⟨fun d hd => (l1.1 d hd).z (fun _ _ _ => rfl) (fun c c1 c2 => by rw [si_nc _ _ _ (by have : kH = 24 := rfl; omega)]), fun q hq => (l1.2.1 q hq).z (fun _ _ _ => rfl) (fun c c1 c2 => by rw [si_nc _ _ _ (by have : kH = 24 := rfl; omega)]), l1.2.2.1, l1.2.2.2⟩
              have m3' : μ19.1 kH 3 = nI (min k 76) := by rw [zc]; exact m3
              have m4' : μ19.1 kH 4 = nI (a + 1) := by rw [zc]; exact si_at _ _ _ _
              have tx' : txC μ19 g := f2.tx tx0
              refine ⟨_, S_readLineC (k := k) (a := a + 1) (by omega) (m2_si μ kM 19 0) μ μ19 hG f2 l2 tx' m3' m4' (by omega), fun y24 μ25 r25 => ?_⟩
              obtain ⟨q1, q2, q3, q4, q5⟩ := r25
              have hpos := rdL_pos (g := g) (k := k) (a := a + 1) (s := s) (by omega)
              by_cases zz : (rdL (cp_hT 76 g k) (a + 1) s).1 = true
              · rw [if_pos zz] at hr q1
                cases q1
                rw [if_neg (show ¬ (1 : Int32) = 0 by decide), nI_1]
                have := hpos.2 zz
                exact ih _ (c + 1) _ μ25 hpos.1 (by omega) (by omega) (by omega) (hG_L hG zz) q4 (q5 zz) q3 q2 hr
              · rw [if_neg zz] at hr q1
                cases q1
                rw [if_pos rfl]
                subst hr
                exact stop μ25 _ _ q2 rfl q4
            · cases zb
              subst zc
              rw [if_neg (show ¬ cp_hT 76 g k a = 59 from fun z => za z), if_neg (show ¬ k ≤ a by omega)] at hr
              refine ⟨fun _ => ?_, fun w => absurd rfl w⟩
              subst hr
              exact stop μ19 _ _ m4 rfl f1
      -- the beginning
      generalize hM0 : m2_si (m2_si (m2_si (m2_si μ kH 3 (nI (min k 76))) kH 4 0) kH 6 (nI n)) kH 7 (nI p) = M0
      have f0 : hF μ M0 n p := by rw [← hM0]; exact (((hF.h ⟨fun _ _ _ _ _ => rfl, fr.rf, rfl⟩).h).h).h
      have l0 : hL1 M0 s0 := by
        subst hs0
        rw [← hM0]
        exact ⟨fun d hd => (hR.dd hd).z (fun c c1 c2 => by show (m2_si μ kM 19 0).1 c d = _; rw [si_nc _ _ _ (by have : kM = 65 := rfl; omega)]) (fun c c1 c2 => by rw [si_nc _ _ _ (by have : kH = 24 := rfl; omega), si_nc _ _ _ (by have : kH = 24 := rfl; omega), si_nc _ _ _ (by have : kH = 24 := rfl; omega), si_nc _ _ _ (by have : kH = 24 := rfl; omega)]), fun q hq => (hR.pp hq).z (fun c c1 c2 => by show (m2_si μ kM 19 0).1 c q = _; rw [si_nc _ _ _ (by have : kM = 65 := rfl; omega)]) (fun c c1 c2 => by rw [si_nc _ _ _ (by have : kH = 24 := rfl; omega), si_nc _ _ _ (by have : kH = 24 := rfl; omega), si_nc _ _ _ (by have : kH = 24 := rfl; omega), si_nc _ _ _ (by have : kH = 24 := rfl; omega)]), rfl, rfl⟩
      have m3 : M0.1 kH 3 = nI (min k 76) := by rw [← hM0]; rfl
      have m4 : M0.1 kH 4 = nI 0 := by rw [← hM0]; rfl
      have tx : txC M0 g := f0.tx tx0
      unfold rdT at hT
      by_cases hk0 : k = 0
      · rw [if_pos hk0] at hT
        subst hT
        have b := good 0 M0 m4 rfl f0 l0 G0
        exact B_X2_read_44 hk' ⟨fun w => absurd w (by decide), fun _ => ⟨fun w => absurd w (by decide), fun _ => ⟨fun _ => ⟨fun w => absurd w (by decide), fun _ => ⟨fun _ => b, fun w => absurd (by rw [hk0]; decide) w⟩⟩, fun w => absurd (by rw [m3, m4, hk0]; decide) w⟩⟩⟩
      · rw [if_neg hk0] at hT
        refine B_X2_read_44 hk' ⟨fun w => absurd w (by decide), fun _ => ⟨fun w => absurd w (by decide), fun _ => ⟨fun w => absurd (by rw [m3, m4] at w; exact w) (nI_ge (by omega) (by omega)), fun _ => ⟨fun _ => ?_, fun w => absurd rfl w⟩⟩⟩⟩
        refine ⟨_, S_readLineC (k := k) (a := 0) (by omega) (m2_si μ kM 19 0) μ M0 G0 f0 l0 tx m3 m4 (by omega), fun y24 μ25 r25 => ?_⟩
        obtain ⟨q1, q2, q3, q4, q5⟩ := r25
        have hpos := rdL_pos (g := g) (k := k) (a := 0) (s := s0) (by omega)
        by_cases zz : (rdL (cp_hT 76 g k) 0 s0).1 = true
        · rw [if_pos zz] at hT q1
          cases q1
          rw [if_neg (show ¬ (1 : Int32) = 0 by decide)]
          have := hpos.2 zz
          exact loop 80 _ 1 _ μ25 hpos.1 (by omega) (by omega) (by omega) (hG_L G0 zz) q4 (q5 zz) q3 q2 hT
        · rw [if_neg zz] at hT q1
          cases q1
          rw [if_pos rfl]
          subst hT
          exact stop μ25 _ _ q2 rfl q4
    · rcases r2 with ⟨t1, t2, μ1, t3, t4, t5, t6⟩ | ⟨t1, t2, t3⟩
      · cases t2
        rw [if_pos t1, if_pos t1, if_pos t1, if_pos t1]
        subst t6
        exact ⟨rfl, RLn.lines hR t5 t3 t4.1 t4.2.1, fr_si rfl (fr_si rfl (fr_si rfl t3.2.1))⟩
      · have nt : ¬ T.1 = true := by rw [t1]; decide
        rw [if_neg nt, if_neg nt, if_neg nt, if_neg nt]
        exact ⟨t2, wrongC μ2 t3, fr_si rfl t3.2.1⟩
  · have hv' := hv.thr
    refine m2_MT.intro (ls := [.ref kM, .null, .null, .null, .null, .null]) (by decide +kernel) rfl (ble rfl) (fun κ hk => ?_)
    refine B_X12_house_0 hk ?_
    rw [hv.1 kM 19 rfl rfl, k3]
    refine ⟨fun _ μ' => μ' = m2_si (m2_si (m2_si (m2_si (m2_si (m2_si ν kM 22 0) kM 23 (nI kM_text)) kM 24 (nI k)) kM 25 76) kM 26 0) kM 27 (-1), ?_, fun μ2 e2 => ?_⟩
    · refine m2_MT.intro (ls := [.ref kM, .ref kM_text, .int (nI k), .int 76]) (by decide +kernel) rfl (ble rfl) (fun κ hk => ?_)
      exact B_X12_begin_0 hk (cB := kM_text) (by decide) rfl
    generalize hM0 : m2_si μ2 kM 19 0 = M0
    have c0 : M0.1 kM 0 = nI n := by rw [← hM0, e2]; exact (hv.1 kM 0 rfl rfl).trans hR.1.2.1
    have c7 : M0.1 kM 7 = nI p := by rw [← hM0, e2]; exact (hv.1 kM 7 rfl rfl).trans hR.2.1.2.1
    have d0 : μ2.1 kM 0 = nI n := by rw [e2]; exact (hv.1 kM 0 rfl rfl).trans hR.1.2.1
    have d7 : μ2.1 kM 7 = nI p := by rw [e2]; exact (hv.1 kM 7 rfl rfl).trans hR.2.1.2.1
    have d24 : μ2.1 kM 24 = nI k := by rw [e2]; rfl
    have v0 : vM (m2_si μ kM 19 0) M0 := by
      rw [← hM0, e2]
      exact (vM_si rfl (vM_si rfl (vM_si rfl (vM_si rfl (vM_si rfl hv'))))).si rfl
    have rc0 : ∀ M, vM (m2_si μ kM 19 0) M ∨ True → M.1 kM 24 = nI k → M.1 kM 25 = nI 76 → M.1 kM 23 = nI kM_text → M.1 kM_text = g → rdC M g k 76 := fun M _ b1 b2 b3 b4 => ⟨⟨b1, by omega, b2, by decide⟩, Or.inl ⟨b3, b4.symm⟩⟩
    have fr0 : frM ν M0 := by rw [← hM0, e2]; exact fr_si rfl (fr_si rfl (fr_si rfl (fr_si rfl (fr_si rfl (fr_si rfl (fr_si rfl fr.rf))))))
    have i26 : M0.1 kM 26 = nI 0 := by rw [← hM0, e2]; rfl
    have i27 : M0.1 kM 27 = -1 := by rw [← hM0, e2]; rfl
    have i24 : M0.1 kM 24 = nI k := by rw [← hM0, e2]; rfl
    have i25 : M0.1 kM 25 = nI 76 := by rw [← hM0, e2]; rfl
    have i23 : M0.1 kM 23 = nI kM_text := by rw [← hM0, e2]; rfl
    have itx : M0.1 kM_text = g := by rw [← hg0]; exact funext fun j => v0.1 kM_text j rfl rfl
    rw [d0, d7, d24]
    -- what holds of a state behind some LINES
    let st : m2M × Nat × Nat → Nat → m2M → Prop := fun s a M => hGs (m2_si μ kM 19 0) n p s ∧ vM s.1 M ∧ frM ν M ∧ M.1 kM 26 = nI a ∧ M.1 kM 27 = -1 ∧ rdC M g k 76
    have psM : ∀ (M : m2M) (a : Nat), M.1 kM 26 = nI a → M.1 kM 27 = -1 → ps M a (-1) = M := by
      intro M a b1 b2
      unfold ps
      rw [m2_si_id b1, m2_si_id b2]
    -- a wrong text
    have endW : ∀ (M : m2M) (v3 v4 w : Int32), M.1 kM 27 = w → w ≠ -1 → T.1 = false → w = nI T.2.1 → frM ν M → vN n p (m2_si μ kM 19 0) (m2_si (m2_si M kM 0 (nI n)) kM 7 (nI p)) → κ 175 [.ref kM, .int (nI n), .int (nI p), .int v3, .int v4, .null] [] M := by
      intro M v3 v4 w b1 b2 b3 b4 b7 b8
      have nf : ¬ fX12_fine M = 1 := by unfold fX12_fine; rw [b1, if_neg b2]; decide
      have e194 : κ 194 [.ref kM, .int (nI n), .int (nI p), .int v3, .int v4, .null] [] M := by
        refine B_X12_house_194 hk (Nat.zero_le _) ⟨fun z => absurd z nf, fun _ => ?_⟩
        rw [b3, b1, b4]
        exact ⟨rfl, b8, fr_si rfl (fr_si rfl b7)⟩
      refine B_X12_house_175 hk ⟨fun _ => e194, fun _ => ⟨_, S_faultW (by omega) M (by rw [b1]; exact b2), fun μ3 e3 => ?_⟩⟩
      rw [e3]
      exact e194
    -- a LINE was wrong
    have wrongL : ∀ (s : m2M × Nat × Nat) (M M' : m2M) (v3 v4 v5 : Int32) (a : Nat), st s a M → (jD s.2.1 M M' ∨ jO s.2.2 M M') → T.1 = false → M'.1 kM 27 = nI T.2.1 → T.2.1 ≤ 76 → κ 161 [.ref kM, .int (nI n), .int (nI p), .int v3, .int v4, .int v5] [] M' := by
      intro s M M' v3 v4 v5 a hst hj t1 t2 t3
      obtain ⟨s1, s2, s3, s4, s5, s6⟩ := hst
      have hw : nI T.2.1 ≠ -1 := nI_ne_m1 (by omega)
      have kk : ∀ j, j ≠ 0 → j ≠ 7 → j ≠ 26 → j ≠ 27 → M'.1 kM j = M.1 kM j := by
        intro j z1 z2 z3 z4
        rcases hj with hj | hj
        · exact hj.2.2 j z1 z3 z4
        · exact hj.2.2 j z2 z3 z4
      have cc : ∀ c j, c ≠ kM → ¬ (66 ≤ c ∧ c ≤ 71 ∧ n ≤ j) → ¬ (72 ≤ c ∧ c ≤ 79 ∧ p ≤ j) → M'.1 c j = M.1 c j := by
        intro c j z1 z2 z3
        rcases hj with hj | hj
        · by_cases w : 66 ≤ c ∧ c ≤ 71
          · exact hj.2.1 c j w.1 w.2 (fun e => z2 ⟨w.1, w.2, by have := s1.1.1; omega⟩)
          · rw [(hj.1 c ?_).1]
            simp only [Bool.or_eq_false_iff, beq_eq_false_iff_ne, Bool.and_eq_false_iff]
            refine ⟨z1, ?_⟩
            by_cases w1 : 66 ≤ c
            · exact Or.inr (ble_f (by omega))
            · exact Or.inl (ble_f (by omega))
        · by_cases w : 72 ≤ c ∧ c ≤ 79
          · exact hj.2.1 c j w.1 w.2 (fun e => z3 ⟨w.1, w.2, by have := s1.1.2.2.1; omega⟩)
          · rw [(hj.1 c ?_).1]
            simp only [Bool.or_eq_false_iff, beq_eq_false_iff_ne, Bool.and_eq_false_iff]
            refine ⟨z1, ?_⟩
            by_cases w1 : 72 ≤ c
            · exact Or.inr (ble_f (by omega))
            · exact Or.inl (ble_f (by omega))
      have row : M'.2 kM_row = M.2 kM_row := by
        rcases hj with hj | hj
        · exact (hj.1 kM_row rfl).2
        · exact (hj.1 kM_row rfl).2
      have frM' : frM ν M' := by
        refine fr.tr s3 ?_
        rcases hj with hj | hj
        · refine fr.mo hj.1 (fun c hc => ?_)
          have : ¬ (65 ≤ c ∧ c ≤ 106) := by
            intro z
            have : isM c = true := by unfold isM; rw [ble_t z.1, ble_t z.2]; rfl
            rw [this] at hc
            cases hc
          have e : kM = 65 := rfl
          simp only [Bool.or_eq_false_iff, beq_eq_false_iff_ne, Bool.and_eq_false_iff]
          refine ⟨by omega, ?_⟩
          by_cases w1 : 66 ≤ c
          · exact Or.inr (ble_f (by omega))
          · exact Or.inl (ble_f (by omega))
        · refine fr.mo hj.1 (fun c hc => ?_)
          have : ¬ (65 ≤ c ∧ c ≤ 106) := by
            intro z
            have : isM c = true := by unfold isM; rw [ble_t z.1, ble_t z.2]; rfl
            rw [this] at hc
            cases hc
          have e : kM = 65 := rfl
          simp only [Bool.or_eq_false_iff, beq_eq_false_iff_ne, Bool.and_eq_false_iff]
          refine ⟨by omega, ?_⟩
          by_cases w1 : 72 ≤ c
          · exact Or.inr (ble_f (by omega))
          · exact Or.inl (ble_f (by omega))
      refine B_X12_house_161 hk ⟨_, S_passesW (by omega) M' (by rw [t2]; exact hw), fun y1 μ2 r2 => ?_⟩
      · obtain ⟨xb, xc⟩ := r2
        cases xb
        subst xc
        refine B_X12_house_50 hk (Nat.zero_le _) ⟨fun _ => ?_, fun w => absurd rfl w⟩
        refine endW μ2 _ _ (nI T.2.1) t2 hw t1 rfl frM' ?_
        refine s1.vn s2 (fun c j z0 z1 z2 z3 => ?_) (fun j z0 z1 z2 => ?_) (by rw [si_nj _ _ _ (by decide), si_at]) (si_at _ _ _ _) hR.1.2.1 hR.2.1.2.1 (fun j => ?_)
        · rw [si_nc _ _ _ z1, si_nc _ _ _ z1]; exact cc c j z1 z2 z3
        · rw [si_nj _ _ _ z2, si_nj _ _ _ z1]
          exact kk j z1 z2 (fun e => by subst e; cases z0) (fun e => by subst e; cases z0)
        · show μ2.2 kM_row j = _
          rw [row]
    -- the answer of a LINE
    have line : ∀ (s : m2M × Nat × Nat) (M : m2M) (a : Nat) (v3 v4 : Int32), st s a M → a ≤ 76 → ((rdL (cp_hT 76 g k) a s).1 = true → ∀ (M' : m2M) (v5 : Int32), st (rdL (cp_hT 76 g k) a s).2.2 (rdL (cp_hT 76 g k) a s).2.1 M' → κ 161 [.ref kM, .int (nI n), .int (nI p), .int v3, .int v4, .int v5] [] M') → ((rdL (cp_hT 76 g k) a s).1 = false → T.1 = false ∧ T.2.1 = (rdL (cp_hT 76 g k) a s).2.1) → v4 ≠ 0 → κ 50 [.ref kM, .int (nI n), .int (nI p), .int v3, .int v4, .null] [] M := by
      intro s M a v3 v4 hst ha kok kbad hv4
      obtain ⟨s1, s2, s3, s4, s5, s6⟩ := id hst
      have eM := psM M a s4 s5
      have h0 : M.1 kM 0 = nI s.2.1 := (s2.1 kM 0 rfl rfl).trans s1.2.1
      have h7 : M.1 kM 7 = nI s.2.2 := (s2.1 kM 7 rfl rfl).trans s1.2.2.1
      have hb := s1.1
      have e26 : m2_si M kM 26 (M.1 kM 26 + 1) = ps M (a + 1) (-1) := by
        unfold ps
        rw [s4, nI_1, m2_si_id (μ := m2_si M kM 26 (nI (a + 1))) (c := kM) (j := 27)]
        rw [si_nj _ _ _ (by decide)]
        exact s5
      have hpos := rdL_pos (g := g) (k := k) (a := a) (s := s) ha
      have fine : fX12_fine M = 1 := by unfold fX12_fine; rw [if_pos s5]
      have gtok : (rdL (cp_hT 76 g k) a s).1 = true → hGs (m2_si μ kM 19 0) n p (rdL (cp_hT 76 g k) a s).2.2 := fun z => hG_L s1 z
      generalize hRL : rdL (cp_hT 76 g k) a s = RL at *
      unfold rdL at hRL
      -- a letter that can't stand there
      have e153 : RL = (false, a, s) → ∀ v5 : Int32, κ 153 [.ref kM, .int (nI n), .int (nI p), .int v3, .int v4, .int v5] [] M := by
        intro hr v5
        obtain ⟨t1, t2⟩ := kbad (by rw [hr])
        have t2 : T.2.1 = a := by rw [t2, hr]
        refine B_X12_house_153 hk ?_
        have key := S_fault (D := D) (a := a) (w := -1) (x := M.1 kM 26) (by omega) M
        rw [eM] at key
        refine ⟨_, key, fun μ3 e3 => ?_⟩
        rw [if_pos rfl, s4] at e3
        subst e3
        exact wrongL s M _ _ _ _ a hst (Or.inl jD.rf.p) t1 (by rw [t2]; rfl) (by omega)
      have e115 : ∀ v5 : Int32, cp_hT 76 g k a = v5 → (v5 = 112 ∨ v5 = 115) → κ 115 [.ref kM, .int (nI n), .int (nI p), .int v3, .int v4, .int v5] [] M := by
        intro v5 hv5 hs
        have n100 : ¬ (cp_hT 76 g k a = 100 ∧ s.2.1 < 20) := by
          rintro ⟨z, _⟩
          rw [hv5] at z
          rcases hs with w | w
          · rw [w] at z; exact absurd z (by decide)
          · rw [w] at z; exact absurd z (by decide)
        rw [if_neg n100] at hRL
        refine B_X12_house_115 hk ?_
        rw [h7]
        refine pk_le 8 s.2.2 (fun w => ?_) (fun w => ?_) rfl rfl (by decide) (by omega)
        · rw [if_neg (fun z => by omega)] at hRL
          exact e153 hRL.symm v5
        · rw [if_pos ⟨by rw [hv5]; exact hs, w⟩] at hRL
          have hlt : a < 76 := by
            rcases hs with z | z
            · exact hT_76 (c := 112) (hv5.trans z) (by decide)
            · exact hT_76 (c := 115) (hv5.trans z) (by decide)
          rw [e26]
          have hs01 : (if v5 = 115 then (1 : Int32) else 0) = 0 ∨ (if v5 = 115 then (1 : Int32) else 0) = 1 := by
            by_cases z : v5 = 115
            · rw [if_pos z]; exact Or.inr rfl
            · rw [if_neg z]; exact Or.inl rfl
          refine ⟨_, S_readOneM (k := k) (a := a + 1) hs01 (by omega) M s6 (by omega) w h7, fun μ5 r5 => ?_⟩
          rcases r5 with ⟨t1, t2⟩ | ⟨t1, t2, t3⟩
          · rw [if_pos t1] at hRL
            have g' := gtok (by rw [← hRL])
            refine kok (by rw [← hRL]) μ5 v5 ?_
            subst hRL
            rw [hv5] at g' ⊢
            rw [t2]
            exact ⟨g', vM_ao (vM_ps s2), frM_ao (frM_ps s3), (adO_k (by decide)).trans (ps_26v _ _ _), (adO_k (by decide)).trans (ps_27v _ _ _), rdC_ao (rdC_ps s6)⟩
          · rw [if_neg (by rw [t1]; decide)] at hRL
            obtain ⟨b1, b2⟩ := kbad (by rw [← hRL])
            have b2 : T.2.1 = (rdO (cp_hT 76 g k) (a + 1)).2.1 := by rw [b2, ← hRL]
            refine wrongL s M μ5 _ _ _ a hst (Or.inr t2) b1 (by rw [b2]; exact t3) ?_
            rw [b2]
            exact (rdO_ok (g := g) (k := k) (a := a + 1) (by omega)).1.2
      have e101 : ∀ v5 : Int32, cp_hT 76 g k a = v5 → ¬ (v5 = 100 ∧ s.2.1 < 20) → κ 101 [.ref kM, .int (nI n), .int (nI p), .int v3, .int v4, .int v5] [] M := by
        intro v5 hv5 hno
        refine B_X12_house_101 hk ⟨fun w => e115 v5 hv5 (Or.inl w), fun w => ⟨fun w2 => ?_, fun w2 => e115 v5 hv5 (Or.inr w2)⟩⟩
        rw [hv5, if_neg hno, if_neg (by rintro ⟨z | z, _⟩; exact w z; exact w2 z)] at hRL
        exact e153 hRL.symm v5
      refine B_X12_house_50 hk (Nat.zero_le _) ⟨fun z => absurd z hv4, fun _ => ⟨fun _ => ?_, fun z => absurd fine z⟩⟩
      have key := S_here (D := D) (a := a) (w := -1) M s6 (by omega)
      rw [eM] at key
      refine ⟨_, key, fun y9 μ10 r10 => ?_⟩
      obtain ⟨xa, xb⟩ := r10
      cases xa
      subst xb
      refine ⟨fun w => e101 _ rfl (fun z => w z.1), fun w => ?_⟩
      rw [h0]
      refine pk_le 20 s.2.1 (fun w2 => e101 _ rfl (fun z => by omega)) (fun w2 => ?_) rfl rfl (by decide) (by omega)
      rw [if_pos ⟨w, w2⟩] at hRL
      have hlt := hT_76 (c := 100) w (by decide)
      rw [e26]
      refine ⟨_, S_readDoorM (k := k) (a := a + 1) (by omega) μ10 s6 (by omega) w2 h0, fun μ17 r17 => ?_⟩
      rcases r17 with ⟨t1, t2⟩ | ⟨t1, t2, t3⟩
      · rw [if_pos t1] at hRL
        have g' := gtok (by rw [← hRL])
        refine kok (by rw [← hRL]) μ17 _ ?_
        subst hRL
        rw [t2]
        exact ⟨g', vM_ad (vM_ps s2), frM_ad (frM_ps s3), (adD_k (by decide)).trans (ps_26v _ _ _), (adD_k (by decide)).trans (ps_27v _ _ _), rdC_ad (rdC_ps s6)⟩
      · rw [if_neg (by rw [t1]; decide)] at hRL
        obtain ⟨b1, b2⟩ := kbad (by rw [← hRL])
        have b2 : T.2.1 = (rdD (cp_hT 76 g k) (a + 1)).2.1 := by rw [b2, ← hRL]
        refine wrongL s μ10 μ17 _ _ _ a hst (Or.inl t2) b1 (by rw [b2]; exact t3) ?_
        rw [b2]
        exact (rdD_ok (g := g) (k := k) (a := a + 1) (by omega)).1.2
    -- behind a LINE
    have after : ∀ (f a c : Nat) (s : m2M × Nat × Nat) (M : m2M) (v4 v5 : Int32), a ≤ 76 → 78 ≤ a + f → st s a M → rdA (cp_hT 76 g k) k f a s (c + 1) = T → κ 161 [.ref kM, .int (nI n), .int (nI p), .int (nI c), .int v4, .int v5] [] M := by
      intro f
      induction f with
      | zero => intro a c s M v4 v5 ha hfu; omega
      | succ f ih =>
        intro a c s M v4 v5 ha hfu hst hr
        obtain ⟨s1, s2, s3, s4, s5, s6⟩ := id hst
        have eM := psM M a s4 s5
        unfold rdA at hr
        have key := S_passes (D := D) (a := a) (w := -1) (c := 59) (by omega) M s6 (by omega)
        rw [eM] at key
        refine B_X12_house_161 hk ⟨_, key, fun y1 μ2 r2 => ?_⟩
        rw [nI_1]
        rcases r2 with ⟨_, za, zb, zc⟩ | ⟨za, zb, zc⟩
        · cases zb
          have hlt := hT_76 (c := 59) za (by decide)
          rw [if_pos za] at hr
          have hst2 : st s (a + 1) μ2 := by
            rw [zc]
            exact ⟨s1, vM_ps s2, frM_ps s3, ps_26v _ _ _, ps_27v _ _ _, rdC_ps s6⟩
          have hpos := rdL_pos (g := g) (k := k) (a := a + 1) (s := s) (by omega)
          refine line s μ2 (a + 1) _ _ hst2 (by omega) (fun z M' v5 hst' => ?_) (fun z => ?_) (by decide)
          · rw [if_pos z] at hr
            have := hpos.2 z
            exact ih _ _ _ M' _ _ hpos.1 (by omega) hst' hr
          · rw [if_neg (by rw [z]; decide)] at hr
            subst hr
            exact ⟨rfl, rfl⟩
        · cases zb
          subst zc
          rw [if_neg (show ¬ cp_hT 76 g k a = 59 from fun z => za ⟨rfl, z⟩)] at hr
          refine B_X12_house_50 hk (Nat.zero_le _) ⟨fun _ => ?_, fun w => absurd rfl w⟩
          have fine : fX12_fine μ2 = 1 := by unfold fX12_fine; rw [if_pos s5]
          refine B_X12_house_175 hk ?_
          rw [s6.1.1, s4]
          refine pk_le k a (fun w => ?_) (fun w => ?_) rfl rfl (by omega) (by omega)
          · rw [if_pos w] at hr
            subst hr
            refine B_X12_house_194 hk (Nat.zero_le _) ⟨fun _ => ?_, fun z => absurd fine z⟩
            refine ⟨rfl, ⟨fun c' j z1 z2 _ _ => s2.1 c' j z1 z2, s2.2⟩, s3⟩
          · rw [if_neg (by omega)] at hr
            have key := S_fault (D := D) (a := a) (w := -1) (x := nI a) (by omega) μ2
            rw [eM] at key
            refine ⟨_, key, fun μ3 e3 => ?_⟩
            rw [if_pos rfl] at e3
            have hw : nI a ≠ -1 := nI_ne_m1 (by omega)
            have nf : ¬ fX12_fine μ3 = 1 := by rw [e3, ps_fine]; exact hw
            refine B_X12_house_194 hk (Nat.zero_le _) ⟨fun z => absurd z nf, fun _ => ?_⟩
            have t1 : T.1 = false := by rw [← hr]
            have t2 : T.2.1 = a := by rw [← hr]
            have nt : ¬ T.1 = true := by rw [t1]; decide
            rw [if_neg nt, if_neg nt, if_neg nt, if_neg nt, t2, e3]
            refine ⟨rfl, ?_, fr_si rfl (fr_si rfl (fr_si rfl (fr_si rfl s3)))⟩
            refine s1.vn s2 (fun c j z0 z1 z2 z3 => ?_) (fun j z0 z1 z2 => ?_) (by rw [si_nj _ _ _ (by decide), si_at]) (si_at _ _ _ _) hR.1.2.1 hR.2.1.2.1 (fun j => rfl)
            · rw [si_nc _ _ _ z1, si_nc _ _ _ z1]
              unfold ps
              rw [si_nc _ _ _ z1, si_nc _ _ _ z1]
            · rw [si_nj _ _ _ z2, si_nj _ _ _ z1]
              exact ps_k (fun e => by subst e; cases z0) (fun e => by subst e; cases z0)
    have st0 : st s0 0 M0 := by
      refine ⟨G0, ?_, fr0, i26, i27, rc0 M0 (Or.inr trivial) i24 i25 i23 itx⟩
      subst hs0
      exact v0
    unfold rdT at hT
    by_cases hk0 : k = 0
    · rw [if_pos hk0] at hT
      rw [hk0, if_pos (show nI 0 ≤ 0 by decide)]
      refine B_X12_house_50 hk (Nat.zero_le _) ⟨fun _ => ?_, fun w => absurd rfl w⟩
      refine B_X12_house_175 hk ⟨fun _ => ?_, fun w => absurd (by rw [i24, i26, hk0]; decide) w⟩
      have fine : fX12_fine M0 = 1 := by unfold fX12_fine; rw [if_pos i27]
      refine B_X12_house_194 hk (Nat.zero_le _) ⟨fun _ => ?_, fun z => absurd fine z⟩
      subst hT
      subst hs0
      exact ⟨rfl, ⟨fun c' j z1 z2 _ _ => v0.1 c' j z1 z2, v0.2⟩, fr0⟩
    · rw [if_neg hk0] at hT
      rw [if_neg (nI_nle (by omega) (by omega))]
      have hpos := rdL_pos (g := g) (k := k) (a := 0) (s := s0) (by omega)
      refine line s0 M0 0 _ _ st0 (by omega) (fun z M' v5 hst' => ?_) (fun z => ?_) (by decide)
      · rw [if_pos z] at hT
        have := hpos.2 z
        have kk := after 80 _ 0 _ M' 1 v5 hpos.1 (by omega) hst' hT
        rw [nI_0] at kk
        exact kk
      · rw [if_neg (by rw [z]; decide)] at hT
        subst hT
        exact ⟨rfl, rfl⟩
