/-! the class reads a LINE -/
theorem S_readDoorC {D k a n1 : Nat} {g : Nat → Int32} (hD : 2 ≤ D) (μ : m2M) (tx : txC μ g) (h3 : μ.1 kH 3 = nI (min k 76)) (h4 : μ.1 kH 4 = nI a) (ha : a < 76) (hn : n1 < 20) (h6 : μ.1 kH 6 = nI n1) : m2_MT D yX2_readDoor cX2_readDoor 2 (some .boolean) [.ref kH, .int (nI n1)] μ (fun r μ' => hN n1 μ μ' ∧ μ'.1 kH 4 = nI (rdD (cp_hT 76 g k) (a + 1)).2.1 ∧ ((rdD (cp_hT 76 g k) (a + 1)).1 = true → r = some (.int 1) ∧ μ'.1 kH 6 = nI (n1 + 1) ∧ μ'.1 kD_a n1 = (rdD (cp_hT 76 g k) (a + 1)).2.2.1 ∧ μ'.1 kD_b n1 = (rdD (cp_hT 76 g k) (a + 1)).2.2.2.1 ∧ μ'.1 kD_oneWay n1 = (rdD (cp_hT 76 g k) (a + 1)).2.2.2.2.1 ∧ μ'.1 kD_lets n1 = (rdD (cp_hT 76 g k) (a + 1)).2.2.2.2.2.1 ∧ μ'.1 kD_left n1 = (rdD (cp_hT 76 g k) (a + 1)).2.2.2.2.2.1 ∧ μ'.1 kD_noon n1 = (rdD (cp_hT 76 g k) (a + 1)).2.2.2.2.2.2) ∧ ((rdD (cp_hT 76 g k) (a + 1)).1 = false → r = some (.int 0) ∧ μ'.1 kH 6 = nI n1)) := by
  obtain ⟨D, rfl⟩ : ∃ E, D = E + 1 := ⟨D - 1, by omega⟩
  generalize hRD : rdD (cp_hT 76 g k) (a + 1) = RD
  refine m2_MT.intro (ls := [.ref kH, .int (nI n1)]) (by decide +kernel) rfl (ble rfl) (fun κ hk => ?_)
  unfold rdD at hRD
  simp only at hRD
  have q0 : hN n1 μ (m2_si μ kH 4 (nI (a + 1))) := hN.rf.h (by decide) (by decide)
  refine B_X2_readDoor_0 hk (Nat.zero_le _) ?_
  rw [h4, nI_1]
  refine ⟨_, S_readNumber (h := 11) (k := k) (a := a + 1) (by omega) _ (q0.tx tx) (q0.2.2.1.trans h3) (si_at _ _ _ _) (by omega) (by decide), fun y1 μ2 r2 => ?_⟩
  have p1 := nmR_pos (g := g) (k := k) (a := a + 1) (hi := 11) (by omega)
  have v1 := nmR_val (hf := cp_hT 76 g k) (a := a + 1) (h := 11) (by decide)
  have r2 : ((nmR (cp_hT 76 g k) 11 (a + 1)).1 = true ∧ some (Value.int y1) = some (.int 1) ∧ μ2 = hS (m2_si μ kH 4 (nI (a + 1))) (nmR (cp_hT 76 g k) 11 (a + 1)).2.2 (nmR (cp_hT 76 g k) 11 (a + 1)).2.1) ∨ ((nmR (cp_hT 76 g k) 11 (a + 1)).1 = false ∧ some (Value.int y1) = some (.int 0) ∧ ∃ v, μ2 = hS (m2_si μ kH 4 (nI (a + 1))) v (nmR (cp_hT 76 g k) 11 (a + 1)).2.1) := r2
  generalize hr1 : nmR (cp_hT 76 g k) 11 (a + 1) = r1 at *
  rcases r2 with ⟨xa, xb, xc⟩ | ⟨xa, xb, xv, xc⟩
  · cases xb
    rw [if_pos xa] at hRD
    refine ⟨fun _ => ⟨vp_in_nI hn (by decide), ?_⟩, fun w => absurd w (by decide)⟩
    have q2 : hN n1 μ μ2 := by rw [xc]; exact q0.s
    have e24 : μ2.1 kH 4 = nI r1.2.1 := by rw [xc]; rfl
    have e25 : μ2.1 kH 5 = r1.2.2 := by rw [xc]; rfl
    have e23 : μ2.1 kH 3 = nI (min k 76) := q2.2.2.1.trans h3
    have e26 : μ2.1 kH 6 = nI n1 := by rw [xc, hS_j _ _ _ (by decide) (by decide), si_nj _ _ _ (by decide)]; exact h6
    refine ⟨st_in e23 e24 p1.2, ?_⟩
    rw [nI_clamp (by omega), e25]
    have q3 : hN n1 μ (m2_si μ2 kD_a n1 r1.2.2) := q2.d (by decide)
    have e34 : (m2_si μ2 kD_a n1 r1.2.2).1 kH 4 = nI r1.2.1 := e24
    have hst : fX2_stands 62 (m2_si μ2 kD_a n1 r1.2.2) = 1 ↔ cp_hT 76 g k r1.2.1 = 62 := stands_iff (c := 62) (q3.tx tx) (q3.2.2.1.trans h3) e34 p1.2 (by decide)
    have one : vp_nar .boolean (if fX2_stands 62 (m2_si μ2 kD_a n1 r1.2.2) = 1 then (1 : Int32) else 0) = if cp_hT 76 g k r1.2.1 = 62 then 1 else 0 := by
      rw [nar_if]
      by_cases z : cp_hT 76 g k r1.2.1 = 62
      · rw [if_pos z, if_pos (hst.mpr z)]
      · rw [if_neg z, if_neg (fun w => z (hst.mp w))]
    rw [one]
    have q4 : hN n1 μ (m2_si (m2_si μ2 kD_a n1 r1.2.2) kD_oneWay n1 (if cp_hT 76 g k r1.2.1 = 62 then 1 else 0)) := q3.d (by decide)
    have e44 : (m2_si (m2_si μ2 kD_a n1 r1.2.2) kD_oneWay n1 (if cp_hT 76 g k r1.2.1 = 62 then 1 else 0)).1 kH 4 = nI r1.2.1 := e24
    have e46 : (m2_si (m2_si μ2 kD_a n1 r1.2.2) kD_oneWay n1 (if cp_hT 76 g k r1.2.1 = 62 then 1 else 0)).1 kH 6 = nI n1 := e26
    have e4a : (m2_si (m2_si μ2 kD_a n1 r1.2.2) kD_oneWay n1 (if cp_hT 76 g k r1.2.1 = 62 then 1 else 0)).1 kD_a n1 = r1.2.2 := by rw [si_nc _ _ _ (by decide), si_at]
    have e4o : (m2_si (m2_si μ2 kD_a n1 r1.2.2) kD_oneWay n1 (if cp_hT 76 g k r1.2.1 = 62 then 1 else 0)).1 kD_oneWay n1 = if cp_hT 76 g k r1.2.1 = 62 then 1 else 0 := si_at _ _ _ _
    generalize hM : m2_si (m2_si μ2 kD_a n1 r1.2.2) kD_oneWay n1 (if cp_hT 76 g k r1.2.1 = 62 then 1 else 0) = M at q4 e44 e46 e4a e4o
    -- the rest, behind - or >
    have rest : (cp_hT 76 g k r1.2.1 = 62 ∨ cp_hT 76 g k r1.2.1 = 45) → r1.2.1 < 76 → κ 67 [.ref kH, .int (nI n1)] [] (m2_si M kH 4 (nI (r1.2.1 + 1))) := by
      intro hs hlt
      rw [if_pos hs] at hRD
      have q5 : hN n1 μ (m2_si M kH 4 (nI (r1.2.1 + 1))) := q4.h (by decide) (by decide)
      have e56 : (m2_si M kH 4 (nI (r1.2.1 + 1))).1 kH 6 = nI n1 := e46
      have e5a : (m2_si M kH 4 (nI (r1.2.1 + 1))).1 kD_a n1 = r1.2.2 := e4a
      have e5o : (m2_si M kH 4 (nI (r1.2.1 + 1))).1 kD_oneWay n1 = if cp_hT 76 g k r1.2.1 = 62 then 1 else 0 := e4o
      have e54 : (m2_si M kH 4 (nI (r1.2.1 + 1))).1 kH 4 = nI (r1.2.1 + 1) := si_at _ _ _ _
      generalize hM5 : m2_si M kH 4 (nI (r1.2.1 + 1)) = M5 at q5 e56 e5a e5o e54
      refine B_X2_readDoor_67 hk ⟨_, S_readNumber (h := 11) (k := k) (a := r1.2.1 + 1) (by omega) _ (q5.tx tx) (q5.2.2.1.trans h3) e54 (by omega) (by decide), fun y1 μ2 r2 => ?_⟩
      have p2 := nmR_pos (g := g) (k := k) (a := r1.2.1 + 1) (hi := 11) (by omega)
      have r2 : ((nmR (cp_hT 76 g k) 11 (r1.2.1 + 1)).1 = true ∧ some (Value.int y1) = some (.int 1) ∧ μ2 = hS M5 (nmR (cp_hT 76 g k) 11 (r1.2.1 + 1)).2.2 (nmR (cp_hT 76 g k) 11 (r1.2.1 + 1)).2.1) ∨ ((nmR (cp_hT 76 g k) 11 (r1.2.1 + 1)).1 = false ∧ some (Value.int y1) = some (.int 0) ∧ ∃ v, μ2 = hS M5 v (nmR (cp_hT 76 g k) 11 (r1.2.1 + 1)).2.1) := r2
      generalize hr2 : nmR (cp_hT 76 g k) 11 (r1.2.1 + 1) = r3 at *
      rcases r2 with ⟨ya, yb, yc⟩ | ⟨ya, yb, yv, yc⟩
      · cases yb
        rw [if_pos ya] at hRD
        have q6 : hN n1 μ μ2 := by rw [yc]; exact q5.s
        have e64 : μ2.1 kH 4 = nI r3.2.1 := by rw [yc]; rfl
        have e65 : μ2.1 kH 5 = r3.2.2 := by rw [yc]; rfl
        have e66 : μ2.1 kH 6 = nI n1 := by rw [yc, hS_j _ _ _ (by decide) (by decide)]; exact e56
        have e6a : μ2.1 kD_a n1 = r1.2.2 := by rw [yc, hS_c _ _ _ (by decide)]; exact e5a
        have e6o : μ2.1 kD_oneWay n1 = if cp_hT 76 g k r1.2.1 = 62 then 1 else 0 := by rw [yc, hS_c _ _ _ (by decide)]; exact e5o
        refine ⟨fun _ => ⟨vp_in_nI hn (by decide), ?_⟩, fun w => absurd w (by decide)⟩
        rw [nI_clamp (by omega), e6a, e65]
        refine ⟨fun w => ?_, fun w => ?_⟩
        · rw [if_neg w] at hRD
          have q7 : hN n1 μ (m2_si μ2 kD_b n1 r3.2.2) := q6.d (by decide)
          have e74 : (m2_si μ2 kD_b n1 r3.2.2).1 kH 4 = nI r3.2.1 := e64
          refine ⟨_, S_takes (k := k) (c := 44) (by omega) _ (q7.tx tx) (q7.2.2.1.trans h3) e74 p2.2 (by decide), fun y10 μ11 r11 => ?_⟩
          rcases r11 with ⟨za, zb, zc⟩ | ⟨za, zb, zc⟩
          · cases zb
            have za : cp_hT 76 g k r3.2.1 = 44 := za
            have hlt3 := hT_76 (c := 44) za (by decide)
            rw [if_pos za] at hRD
            refine ⟨fun w2 => absurd w2 (by decide), fun _ => ?_⟩
            have q8 : hN n1 μ μ11 := by rw [zc]; exact q7.h (by decide) (by decide)
            have e84 : μ11.1 kH 4 = nI (r3.2.1 + 1) := by rw [zc]; exact si_at _ _ _ _
            have e86 : μ11.1 kH 6 = nI n1 := by rw [zc]; exact e66
            have e8a : μ11.1 kD_a n1 = r1.2.2 := by rw [zc]; exact e6a
            have e8o : μ11.1 kD_oneWay n1 = if cp_hT 76 g k r1.2.1 = 62 then 1 else 0 := by rw [zc]; exact e6o
            have e8b : μ11.1 kD_b n1 = r3.2.2 := by rw [zc, si_nc _ _ _ (by decide), si_at]
            refine ⟨_, S_readNumber (h := 60) (k := k) (a := r3.2.1 + 1) (by omega) _ (q8.tx tx) (q8.2.2.1.trans h3) e84 (by omega) (by decide), fun y16 μ17 r17 => ?_⟩
            have p3 := nmR_pos (g := g) (k := k) (a := r3.2.1 + 1) (hi := 60) (by omega)
            have r17 : ((nmR (cp_hT 76 g k) 60 (r3.2.1 + 1)).1 = true ∧ some (Value.int y16) = some (.int 1) ∧ μ17 = hS μ11 (nmR (cp_hT 76 g k) 60 (r3.2.1 + 1)).2.2 (nmR (cp_hT 76 g k) 60 (r3.2.1 + 1)).2.1) ∨ ((nmR (cp_hT 76 g k) 60 (r3.2.1 + 1)).1 = false ∧ some (Value.int y16) = some (.int 0) ∧ ∃ v, μ17 = hS μ11 v (nmR (cp_hT 76 g k) 60 (r3.2.1 + 1)).2.1) := r17
            generalize hr4 : nmR (cp_hT 76 g k) 60 (r3.2.1 + 1) = r4 at *
            rcases r17 with ⟨ua, ub, uc⟩ | ⟨ua, ub, uv, uc⟩
            · cases ub
              rw [if_pos ua] at hRD
              refine ⟨fun _ => ?_, fun w2 => absurd w2 (by decide)⟩
              have q9 : hN n1 μ μ17 := by rw [uc]; exact q8.s
              have e94 : μ17.1 kH 4 = nI r4.2.1 := by rw [uc]; rfl
              have e95 : μ17.1 kH 5 = r4.2.2 := by rw [uc]; rfl
              have e96 : μ17.1 kH 6 = nI n1 := by rw [uc, hS_j _ _ _ (by decide) (by decide)]; exact e86
              have e9a : μ17.1 kD_a n1 = r1.2.2 := by rw [uc, hS_c _ _ _ (by decide)]; exact e8a
              have e9b : μ17.1 kD_b n1 = r3.2.2 := by rw [uc, hS_c _ _ _ (by decide)]; exact e8b
              have e9o : μ17.1 kD_oneWay n1 = if cp_hT 76 g k r1.2.1 = 62 then 1 else 0 := by rw [uc, hS_c _ _ _ (by decide)]; exact e8o
              rw [e95]
              have qA : hN n1 μ (m2_si (m2_si (m2_si μ17 kD_lets n1 r4.2.2) kD_left n1 r4.2.2) kD_noon n1 (-1)) := ((q9.d (by decide)).d (by decide)).d (by decide)
              have eA4 : (m2_si (m2_si (m2_si μ17 kD_lets n1 r4.2.2) kD_left n1 r4.2.2) kD_noon n1 (-1)).1 kH 4 = nI r4.2.1 := e94
              have eA6 : (m2_si (m2_si (m2_si μ17 kD_lets n1 r4.2.2) kD_left n1 r4.2.2) kD_noon n1 (-1)).1 kH 6 = nI n1 := e96
              have eAa : (m2_si (m2_si (m2_si μ17 kD_lets n1 r4.2.2) kD_left n1 r4.2.2) kD_noon n1 (-1)).1 kD_a n1 = r1.2.2 := e9a
              have eAb : (m2_si (m2_si (m2_si μ17 kD_lets n1 r4.2.2) kD_left n1 r4.2.2) kD_noon n1 (-1)).1 kD_b n1 = r3.2.2 := e9b
              have eAo : (m2_si (m2_si (m2_si μ17 kD_lets n1 r4.2.2) kD_left n1 r4.2.2) kD_noon n1 (-1)).1 kD_oneWay n1 = if cp_hT 76 g k r1.2.1 = 62 then 1 else 0 := e9o
              have eAl : (m2_si (m2_si (m2_si μ17 kD_lets n1 r4.2.2) kD_left n1 r4.2.2) kD_noon n1 (-1)).1 kD_lets n1 = r4.2.2 := by rw [si_nc _ _ _ (by decide), si_nc _ _ _ (by decide), si_at]
              have eAe : (m2_si (m2_si (m2_si μ17 kD_lets n1 r4.2.2) kD_left n1 r4.2.2) kD_noon n1 (-1)).1 kD_left n1 = r4.2.2 := by rw [si_nc _ _ _ (by decide), si_at]
              have eAn : (m2_si (m2_si (m2_si μ17 kD_lets n1 r4.2.2) kD_left n1 r4.2.2) kD_noon n1 (-1)).1 kD_noon n1 = -1 := si_at _ _ _ _
              generalize hMA : m2_si (m2_si (m2_si μ17 kD_lets n1 r4.2.2) kD_left n1 r4.2.2) kD_noon n1 (-1) = MA at qA eA4 eA6 eAa eAb eAo eAl eAe eAn
              refine ⟨_, S_takes (k := k) (c := 64) (by omega) _ (qA.tx tx) (qA.2.2.1.trans h3) eA4 p3.2 (by decide), fun y25 μ26 r26 => ?_⟩
              rcases r26 with ⟨ta, tb, tc⟩ | ⟨ta, tb, tc⟩
              · cases tb
                have ta : cp_hT 76 g k r4.2.1 = 64 := ta
                have hlt4 := hT_76 (c := 64) ta (by decide)
                rw [if_pos ta] at hRD
                refine ⟨fun w2 => absurd w2 (by decide), fun _ => ?_⟩
                have qB : hN n1 μ μ26 := by rw [tc]; exact qA.h (by decide) (by decide)
                have eB4 : μ26.1 kH 4 = nI (r4.2.1 + 1) := by rw [tc]; exact si_at _ _ _ _
                refine ⟨_, S_readNumber (h := 60) (k := k) (a := r4.2.1 + 1) (by omega) _ (qB.tx tx) (qB.2.2.1.trans h3) eB4 (by omega) (by decide), fun y31 μ32 r32 => ?_⟩
                have r32 : ((nmR (cp_hT 76 g k) 60 (r4.2.1 + 1)).1 = true ∧ some (Value.int y31) = some (.int 1) ∧ μ32 = hS μ26 (nmR (cp_hT 76 g k) 60 (r4.2.1 + 1)).2.2 (nmR (cp_hT 76 g k) 60 (r4.2.1 + 1)).2.1) ∨ ((nmR (cp_hT 76 g k) 60 (r4.2.1 + 1)).1 = false ∧ some (Value.int y31) = some (.int 0) ∧ ∃ v, μ32 = hS μ26 v (nmR (cp_hT 76 g k) 60 (r4.2.1 + 1)).2.1) := r32
                generalize hr5 : nmR (cp_hT 76 g k) 60 (r4.2.1 + 1) = r5 at *
                rcases r32 with ⟨sa, sb, sc⟩ | ⟨sa, sb, sv, sc⟩
                · cases sb
                  rw [if_pos sa] at hRD
                  refine ⟨fun _ => ?_, fun w2 => absurd w2 (by decide)⟩
                  refine B_X2_readDoor_208 hk ?_
                  have e5 : μ32.1 kH 5 = r5.2.2 := by rw [sc]; rfl
                  rw [e5]
                  have qC : hN n1 μ μ32 := by rw [sc]; exact qB.s
                  have kk : ∀ c, c ≠ kH → μ32.1 c = MA.1 c := fun c hc => by rw [sc, hS_c _ _ _ hc, tc, si_nc _ _ _ hc]
                  have e6 : (m2_si μ32 kD_noon n1 r5.2.2).1 kH 6 = nI n1 := by
                    show μ32.1 kH 6 = _
                    rw [sc, hS_j _ _ _ (by decide) (by decide), tc, si_nj _ _ _ (by decide)]
                    exact eA6
                  rw [e6, nI_1]
                  subst hRD
                  refine ⟨(qC.d (by decide)).h (by decide) (by decide), ?_, fun _ => ⟨rfl, si_at _ _ _ _, ?_, ?_, ?_, ?_, ?_, ?_⟩, fun w2 => absurd w2 (by simp)⟩
                  · rw [si_nj _ _ _ (by decide), si_nc _ _ _ (by decide), sc]; rfl
                  · rw [si_nc _ _ _ (by decide), si_nc _ _ _ (by decide), kk _ (by decide)]; exact eAa
                  · rw [si_nc _ _ _ (by decide), si_nc _ _ _ (by decide), kk _ (by decide)]; exact eAb
                  · rw [si_nc _ _ _ (by decide), si_nc _ _ _ (by decide), kk _ (by decide)]; exact eAo
                  · rw [si_nc _ _ _ (by decide), si_nc _ _ _ (by decide), kk _ (by decide)]; exact eAl
                  · rw [si_nc _ _ _ (by decide), si_nc _ _ _ (by decide), kk _ (by decide)]; exact eAe
                  · rw [si_nc _ _ _ (by decide), si_at]
                · cases sb
                  rw [if_neg (by rw [sa]; decide)] at hRD
                  refine ⟨fun w2 => absurd rfl w2, fun _ => ?_⟩
                  subst hRD
                  refine ⟨by rw [sc]; exact qB.s, by rw [sc]; rfl, fun w2 => absurd w2 (by simp), fun _ => ⟨rfl, ?_⟩⟩
                  rw [sc, hS_j _ _ _ (by decide) (by decide), tc, si_nj _ _ _ (by decide)]
                  exact eA6
              · cases tb
                rw [if_neg (show ¬ cp_hT 76 g k r4.2.1 = 64 from fun z => ta z)] at hRD
                refine ⟨fun _ => ?_, fun w2 => absurd rfl w2⟩
                refine B_X2_readDoor_208 hk ?_
                subst tc
                rw [eA6, nI_1]
                subst hRD
                refine ⟨qA.h (by decide) (by decide), ?_, fun _ => ⟨rfl, si_at _ _ _ _, ?_, ?_, ?_, ?_, ?_, ?_⟩, fun w2 => absurd w2 (by simp)⟩
                · rw [si_nj _ _ _ (by decide)]; exact eA4
                · rw [si_nc _ _ _ (by decide)]; exact eAa
                · rw [si_nc _ _ _ (by decide)]; exact eAb
                · rw [si_nc _ _ _ (by decide)]; exact eAo
                · rw [si_nc _ _ _ (by decide)]; exact eAl
                · rw [si_nc _ _ _ (by decide)]; exact eAe
                · rw [si_nc _ _ _ (by decide)]; exact eAn
            · cases ub
              rw [if_neg (by rw [ua]; decide)] at hRD
              refine ⟨fun w2 => absurd rfl w2, fun _ => B_X2_readDoor_137 hk ?_⟩
              subst hRD
              refine ⟨by rw [uc]; exact q8.s, by rw [uc]; rfl, fun w2 => absurd w2 (by simp), fun _ => ⟨rfl, ?_⟩⟩
              rw [uc, hS_j _ _ _ (by decide) (by decide)]
              exact e86
          · cases zb
            rw [if_neg (show ¬ cp_hT 76 g k r3.2.1 = 44 from fun z => za z)] at hRD
            refine ⟨fun _ => B_X2_readDoor_137 hk ?_, fun w2 => absurd rfl w2⟩
            subst hRD
            subst zc
            exact ⟨q7, e74, fun w2 => absurd w2 (by simp), fun _ => ⟨rfl, e66⟩⟩
        · rw [if_pos w] at hRD
          rw [e64, pred_nI (by omega)]
          subst hRD
          exact ⟨q6.h (by decide) (by decide), si_at _ _ _ _, fun w2 => absurd w2 (by simp), fun _ => ⟨rfl, by rw [si_nj _ _ _ (by decide)]; exact e66⟩⟩
      · cases yb
        rw [if_neg (by rw [ya]; decide)] at hRD
        refine ⟨fun w => absurd rfl w, fun _ => B_X2_readDoor_76 hk ?_⟩
        subst hRD
        refine ⟨by rw [yc]; exact q5.s, by rw [yc]; rfl, fun w2 => absurd w2 (by simp), fun _ => ⟨rfl, ?_⟩⟩
        rw [yc, hS_j _ _ _ (by decide) (by decide)]
        exact e56
    refine ⟨_, S_takes (k := k) (c := 45) (by omega) M (q4.tx tx) (q4.2.2.1.trans h3) e44 p1.2 (by decide), fun y13 μ14 r14 => ?_⟩
    rcases r14 with ⟨za, zb, zc⟩ | ⟨za, zb, zc⟩
    · cases zb
      refine ⟨fun _ => ?_, fun w => absurd w (by decide)⟩
      rw [zc]
      exact rest (Or.inr za) (hT_76 (c := 45) za (by decide))
    · cases zb
      subst zc
      refine ⟨fun w => absurd rfl w, fun _ => ?_⟩
      refine ⟨_, S_takes (k := k) (c := 62) (by omega) μ14 (q4.tx tx) (q4.2.2.1.trans h3) e44 p1.2 (by decide), fun y19 μ20 r20 => ?_⟩
      rcases r20 with ⟨ya, yb, yc⟩ | ⟨ya, yb, yc⟩
      · cases yb
        refine ⟨fun w => absurd w (by decide), fun _ => ?_⟩
        rw [yc]
        exact rest (Or.inl ya) (hT_76 (c := 62) ya (by decide))
      · cases yb
        refine ⟨fun _ => B_X2_readDoor_76 hk ?_, fun w => absurd rfl w⟩
        rw [if_neg (by rintro (z | z); exact ya z; exact za z)] at hRD
        subst hRD
        subst yc
        exact ⟨q4, e44, fun w2 => absurd w2 (by simp), fun _ => ⟨rfl, e46⟩⟩
  · cases xb
    rw [if_neg (by rw [xa]; decide)] at hRD
    refine ⟨fun w => absurd rfl w, fun _ => ?_⟩
    subst hRD
    refine ⟨by rw [xc]; exact q0.s, by rw [xc]; rfl, fun w2 => absurd w2 (by simp), fun _ => ⟨rfl, ?_⟩⟩
    rw [xc, hS_j _ _ _ (by decide) (by decide), si_nj _ _ _ (by decide)]
    exact h6
theorem S_beginC {D p1 : Nat} (hD : 1 ≤ D) (hp : p1 < 8) (r : Int32) (μ : m2M) : m2_MT D yX6_begin cX6_begin 3 none [.ref kP, .int (nI p1), .int r] μ (fun _ μ' => μ' = cA (m2_si (m2_si (m2_si μ kP_first p1 r) kP_reached p1 0) kP_done p1 0) p1 r) := by
  obtain ⟨D, rfl⟩ : ∃ E, D = E + 1 := ⟨D - 1, by omega⟩
  refine m2_MT.intro (ls := [.ref kP, .int (nI p1), .int r]) (by decide +kernel) rfl (ble rfl) (fun κ hk => ?_)
  refine B_X6_begin_0 hk ⟨vp_in_nI hp (by decide), ?_⟩
  rw [nI_clamp (by omega), nar_0]
  refine ⟨_, S_come hp r _ (Or.inl ?_) (Or.inl (si_at _ _ _ _)), fun μ5 e5 => e5⟩
  rw [si_nc _ _ _ (by decide), si_at]
theorem S_readPersonC {D k a p1 : Nat} {g : Nat → Int32} (hD : 3 ≤ D) (μ : m2M) (tx : txC μ g) (h3 : μ.1 kH 3 = nI (min k 76)) (h4 : μ.1 kH 4 = nI a) (ha : a < 76) (hp : p1 < 8) (h7 : μ.1 kH 7 = nI p1) : m2_MT D yX2_readPerson cX2_readPerson 3 (some .boolean) [.ref kH, .int (nI p1)] μ (fun r μ' => hO1 p1 μ μ' ∧ μ'.1 kH 4 = nI (rdO (cp_hT 76 g k) (a + 1)).2.1 ∧ ((rdO (cp_hT 76 g k) (a + 1)).1 = true → r = some (.int 1) ∧ μ'.1 kH 7 = nI (p1 + 1) ∧ μ'.1 kP_where p1 = (rdO (cp_hT 76 g k) (a + 1)).2.2.1 ∧ μ'.1 kP_first p1 = (rdO (cp_hT 76 g k) (a + 1)).2.2.1 ∧ μ'.1 kP_stranger p1 = (if cp_hT 76 g k a = 115 then 1 else 0) ∧ μ'.1 kP_worth p1 = (rdO (cp_hT 76 g k) (a + 1)).2.2.2.1 ∧ μ'.1 kP_errand p1 = (rdO (cp_hT 76 g k) (a + 1)).2.2.2.2.1 ∧ μ'.1 kP_back p1 = (rdO (cp_hT 76 g k) (a + 1)).2.2.2.2.2 ∧ μ'.1 kP_reached p1 = (if (rdO (cp_hT 76 g k) (a + 1)).2.2.2.2.1 = (rdO (cp_hT 76 g k) (a + 1)).2.2.1 then 1 else 0) ∧ μ'.1 kP_done p1 = (if (rdO (cp_hT 76 g k) (a + 1)).2.2.2.2.1 = (rdO (cp_hT 76 g k) (a + 1)).2.2.1 then 1 else 0)) ∧ ((rdO (cp_hT 76 g k) (a + 1)).1 = false → r = some (.int 0) ∧ μ'.1 kH 7 = nI p1)) := by
  obtain ⟨D, rfl⟩ : ∃ E, D = E + 1 := ⟨D - 1, by omega⟩
  generalize hRD : rdO (cp_hT 76 g k) (a + 1) = RD
  refine m2_MT.intro (ls := [.ref kH, .int (nI p1), .null]) (by decide +kernel) rfl (ble rfl) (fun κ hk => ?_)
  unfold rdO at hRD
  simp only at hRD
  have hst : fX2_stands 115 μ = 1 ↔ cp_hT 76 g k a = 115 := stands_iff (c := 115) tx h3 h4 (by omega) (by decide)
  have one : vp_nar .boolean (if fX2_stands 115 μ = 1 then (1 : Int32) else 0) = if cp_hT 76 g k a = 115 then 1 else 0 := by
    rw [nar_if]
    by_cases z : cp_hT 76 g k a = 115
    · rw [if_pos z, if_pos (hst.mpr z)]
    · rw [if_neg z, if_neg (fun w => z (hst.mp w))]
  refine B_X2_readPerson_0 hk (Nat.zero_le _) ⟨st_in h3 h4 (by omega), vp_in_nI hp (by decide), ?_⟩
  rw [nI_clamp (by omega), one, h4, nI_1]
  have q0 : hO1 p1 μ (m2_si (m2_si μ kP_stranger p1 (if cp_hT 76 g k a = 115 then 1 else 0)) kH 4 (nI (a + 1))) := (hO1.rf.d (by decide)).h (by decide) (by decide)
  have e07 : (m2_si (m2_si μ kP_stranger p1 (if cp_hT 76 g k a = 115 then 1 else 0)) kH 4 (nI (a + 1))).1 kH 7 = nI p1 := h7
  have e0s : (m2_si (m2_si μ kP_stranger p1 (if cp_hT 76 g k a = 115 then 1 else 0)) kH 4 (nI (a + 1))).1 kP_stranger p1 = (if cp_hT 76 g k a = 115 then 1 else 0) := by rw [si_nc _ _ _ (by decide), si_at]
  have e04 : (m2_si (m2_si μ kP_stranger p1 (if cp_hT 76 g k a = 115 then 1 else 0)) kH 4 (nI (a + 1))).1 kH 4 = nI (a + 1) := si_at _ _ _ _
  generalize hM0 : m2_si (m2_si μ kP_stranger p1 (if cp_hT 76 g k a = 115 then 1 else 0)) kH 4 (nI (a + 1)) = M0 at q0 e07 e0s e04
  refine ⟨_, S_readNumber (h := 11) (k := k) (a := a + 1) (by omega) _ (q0.tx tx) (q0.2.2.1.trans h3) e04 (by omega) (by decide), fun y6 μ7 r7 => ?_⟩
  have p1' := nmR_pos (g := g) (k := k) (a := a + 1) (hi := 11) (by omega)
  have r7 : ((nmR (cp_hT 76 g k) 11 (a + 1)).1 = true ∧ some (Value.int y6) = some (.int 1) ∧ μ7 = hS M0 (nmR (cp_hT 76 g k) 11 (a + 1)).2.2 (nmR (cp_hT 76 g k) 11 (a + 1)).2.1) ∨ ((nmR (cp_hT 76 g k) 11 (a + 1)).1 = false ∧ some (Value.int y6) = some (.int 0) ∧ ∃ v, μ7 = hS M0 v (nmR (cp_hT 76 g k) 11 (a + 1)).2.1) := r7
  generalize hr1 : nmR (cp_hT 76 g k) 11 (a + 1) = r1 at *
  rcases r7 with ⟨xa, xb, xc⟩ | ⟨xa, xb, xv, xc⟩
  · cases xb
    rw [if_pos xa] at hRD
    refine ⟨fun _ => ?_, fun w => absurd w (by decide)⟩
    have q2 : hO1 p1 μ μ7 := by rw [xc]; exact q0.s
    have e24 : μ7.1 kH 4 = nI r1.2.1 := by rw [xc]; rfl
    have e25 : μ7.1 kH 5 = r1.2.2 := by rw [xc]; rfl
    have e27 : μ7.1 kH 7 = nI p1 := by rw [xc, hS_j _ _ _ (by decide) (by decide)]; exact e07
    have e2s : μ7.1 kP_stranger p1 = (if cp_hT 76 g k a = 115 then 1 else 0) := by rw [xc, hS_c _ _ _ (by decide)]; exact e0s
    refine ⟨_, S_takes (k := k) (c := 44) (by omega) _ (q2.tx tx) (q2.2.2.1.trans h3) e24 p1'.2 (by decide), fun y12 μ13 r13 => ?_⟩
    rcases r13 with ⟨za, zb, zc⟩ | ⟨za, zb, zc⟩
    · cases zb
      have za : cp_hT 76 g k r1.2.1 = 44 := za
      have hlt3 := hT_76 (c := 44) za (by decide)
      rw [if_pos za] at hRD
      refine ⟨fun w2 => absurd w2 (by decide), fun _ => ?_⟩
      have q8 : hO1 p1 μ μ13 := by rw [zc]; exact q2.h (by decide) (by decide)
      have e84 : μ13.1 kH 4 = nI (r1.2.1 + 1) := by rw [zc]; exact si_at _ _ _ _
      have e87 : μ13.1 kH 7 = nI p1 := by rw [zc]; exact e27
      have e8s : μ13.1 kP_stranger p1 = (if cp_hT 76 g k a = 115 then 1 else 0) := by rw [zc]; exact e2s
      refine ⟨_, S_readNumber (h := 99) (k := k) (a := r1.2.1 + 1) (by omega) _ (q8.tx tx) (q8.2.2.1.trans h3) e84 (by omega) (by decide), fun y18 μ19 r19 => ?_⟩
      have p2 := nmR_pos (g := g) (k := k) (a := r1.2.1 + 1) (hi := 99) (by omega)
      have r19 : ((nmR (cp_hT 76 g k) 99 (r1.2.1 + 1)).1 = true ∧ some (Value.int y18) = some (.int 1) ∧ μ19 = hS μ13 (nmR (cp_hT 76 g k) 99 (r1.2.1 + 1)).2.2 (nmR (cp_hT 76 g k) 99 (r1.2.1 + 1)).2.1) ∨ ((nmR (cp_hT 76 g k) 99 (r1.2.1 + 1)).1 = false ∧ some (Value.int y18) = some (.int 0) ∧ ∃ v, μ19 = hS μ13 v (nmR (cp_hT 76 g k) 99 (r1.2.1 + 1)).2.1) := r19
      generalize hr2 : nmR (cp_hT 76 g k) 99 (r1.2.1 + 1) = r2 at *
      rcases r19 with ⟨ya, yb, yc⟩ | ⟨ya, yb, yv, yc⟩
      · cases yb
        rw [if_pos ya] at hRD
        refine ⟨fun _ => ?_, fun w2 => absurd w2 (by decide)⟩
        have q9 : hO1 p1 μ μ19 := by rw [yc]; exact q8.s
        have e94 : μ19.1 kH 4 = nI r2.2.1 := by rw [yc]; rfl
        have e95 : μ19.1 kH 5 = r2.2.2 := by rw [yc]; rfl
        have e97 : μ19.1 kH 7 = nI p1 := by rw [yc, hS_j _ _ _ (by decide) (by decide)]; exact e87
        have e9s : μ19.1 kP_stranger p1 = (if cp_hT 76 g k a = 115 then 1 else 0) := by rw [yc, hS_c _ _ _ (by decide)]; exact e8s
        rw [e95, nar_0]
        have qA : hO1 p1 μ (m2_si (m2_si (m2_si μ19 kP_worth p1 r2.2.2) kP_errand p1 (-1)) kP_back p1 0) := ((q9.d (by decide)).d (by decide)).d (by decide)
        have eA4 : (m2_si (m2_si (m2_si μ19 kP_worth p1 r2.2.2) kP_errand p1 (-1)) kP_back p1 0).1 kH 4 = nI r2.2.1 := e94
        have eA7 : (m2_si (m2_si (m2_si μ19 kP_worth p1 r2.2.2) kP_errand p1 (-1)) kP_back p1 0).1 kH 7 = nI p1 := e97
        have eAs : (m2_si (m2_si (m2_si μ19 kP_worth p1 r2.2.2) kP_errand p1 (-1)) kP_back p1 0).1 kP_stranger p1 = (if cp_hT 76 g k a = 115 then 1 else 0) := e9s
        have eAw : (m2_si (m2_si (m2_si μ19 kP_worth p1 r2.2.2) kP_errand p1 (-1)) kP_back p1 0).1 kP_worth p1 = r2.2.2 := by rw [si_nc _ _ _ (by decide), si_nc _ _ _ (by decide), si_at]
        have eAe : (m2_si (m2_si (m2_si μ19 kP_worth p1 r2.2.2) kP_errand p1 (-1)) kP_back p1 0).1 kP_errand p1 = -1 := by rw [si_nc _ _ _ (by decide), si_at]
        have eAb : (m2_si (m2_si (m2_si μ19 kP_worth p1 r2.2.2) kP_errand p1 (-1)) kP_back p1 0).1 kP_back p1 = 0 := si_at _ _ _ _
        generalize hMA : m2_si (m2_si (m2_si μ19 kP_worth p1 r2.2.2) kP_errand p1 (-1)) kP_back p1 0 = MA at qA eA4 eA7 eAs eAw eAe eAb
        rw [e25]
        -- the end
        have fin : ∀ (M : m2M) (e b : Int32), hO1 p1 μ M → M.1 kH 7 = nI p1 → M.1 kP_stranger p1 = (if cp_hT 76 g k a = 115 then 1 else 0) → M.1 kP_worth p1 = r2.2.2 → M.1 kP_errand p1 = e → M.1 kP_back p1 = b → M.1 kH 4 = nI RD.2.1 → RD.1 = true → RD.2.2.1 = r1.2.2 → RD.2.2.2.1 = r2.2.2 → RD.2.2.2.2.1 = e → RD.2.2.2.2.2 = b → ∃ Q35 : Option Value → m2M → Prop, m2_MT D yX6_begin cX6_begin 3 none [.ref kP, .int (nI p1), .int r1.2.2] M Q35 ∧ ∀ (μ34 : m2M), Q35 none μ34 → (hO1 p1 μ (m2_si μ34 kH 7 (μ34.1 kH 7 + 1)) ∧ (m2_si μ34 kH 7 (μ34.1 kH 7 + 1)).1 kH 4 = nI RD.2.1 ∧ (RD.1 = true → some (Value.int 1) = some (.int 1) ∧ (m2_si μ34 kH 7 (μ34.1 kH 7 + 1)).1 kH 7 = nI (p1 + 1) ∧ (m2_si μ34 kH 7 (μ34.1 kH 7 + 1)).1 kP_where p1 = RD.2.2.1 ∧ (m2_si μ34 kH 7 (μ34.1 kH 7 + 1)).1 kP_first p1 = RD.2.2.1 ∧ (m2_si μ34 kH 7 (μ34.1 kH 7 + 1)).1 kP_stranger p1 = (if cp_hT 76 g k a = 115 then 1 else 0) ∧ (m2_si μ34 kH 7 (μ34.1 kH 7 + 1)).1 kP_worth p1 = RD.2.2.2.1 ∧ (m2_si μ34 kH 7 (μ34.1 kH 7 + 1)).1 kP_errand p1 = RD.2.2.2.2.1 ∧ (m2_si μ34 kH 7 (μ34.1 kH 7 + 1)).1 kP_back p1 = RD.2.2.2.2.2 ∧ (m2_si μ34 kH 7 (μ34.1 kH 7 + 1)).1 kP_reached p1 = (if RD.2.2.2.2.1 = RD.2.2.1 then 1 else 0) ∧ (m2_si μ34 kH 7 (μ34.1 kH 7 + 1)).1 kP_done p1 = (if RD.2.2.2.2.1 = RD.2.2.1 then 1 else 0)) ∧ (RD.1 = false → some (Value.int 1) = some (.int 0) ∧ (m2_si μ34 kH 7 (μ34.1 kH 7 + 1)).1 kH 7 = nI p1)) := by
          intro M e b qM m7 ms mw me mb m4 d0 d1 d2 d3 d4
          refine ⟨_, S_beginC (by omega) hp r1.2.2 M, fun μ34 e34 => ?_⟩
          have hnx : ∀ (X : m2M) (c : Nat) (x : Int32), hO1 p1 μ X → (16 ≤ c ∧ c ≤ 23) → hO1 p1 μ (m2_si X c p1 x) := fun X c x qX hc => qX.d hc
          generalize hB : m2_si (m2_si (m2_si M kP_first p1 r1.2.2) kP_reached p1 0) kP_done p1 0 = B at e34
          have qB : hO1 p1 μ B := by rw [← hB]; exact hnx _ _ _ (hnx _ _ _ (hnx _ _ _ qM (by decide)) (by decide)) (by decide)
          have bE : B.1 kP_errand p1 = e := by rw [← hB, si_nc _ _ _ (by decide), si_nc _ _ _ (by decide), si_nc _ _ _ (by decide)]; exact me
          have bR : B.1 kP_reached p1 = 0 := by rw [← hB, si_nc _ _ _ (by decide), si_at]
          have bD : B.1 kP_done p1 = 0 := by rw [← hB, si_at]
          have bF : B.1 kP_first p1 = r1.2.2 := by rw [← hB, si_nc _ _ _ (by decide), si_nc _ _ _ (by decide), si_at]
          have bO : ∀ c, c ≠ kP_first → c ≠ kP_reached → c ≠ kP_done → B.1 c = M.1 c := fun c c1 c2 c3 => by rw [← hB, si_nc _ _ _ c3, si_nc _ _ _ c2, si_nc _ _ _ c1]
          have cRt0 : cRt B p1 r1.2.2 = if e = r1.2.2 then 1 else 0 := by unfold cRt; rw [bE, bR]
          have cDn0 : cDn B p1 r1.2.2 = if e = r1.2.2 then 1 else 0 := by
            unfold cDn
            rw [cRt0, bD, bF]
            by_cases z : e = r1.2.2
            · rw [if_pos z, if_pos ⟨rfl, Or.inr rfl⟩]
            · rw [if_neg z, if_neg (fun w => absurd w.1 (by decide))]
          have q34 : hO1 p1 μ μ34 := by rw [e34]; exact hnx _ _ _ (hnx _ _ _ (hnx _ _ _ qB (by decide)) (by decide)) (by decide)
          have o34 : ∀ c, c ≠ kP_where → c ≠ kP_reached → c ≠ kP_done → μ34.1 c = B.1 c := fun c c1 c2 c3 => by
            rw [e34]
            unfold cA
            rw [si_nc _ _ _ c3, si_nc _ _ _ c2, si_nc _ _ _ c1]
          have w34 : μ34.1 kP_where p1 = r1.2.2 := by
            rw [e34]
            unfold cA
            rw [si_nc _ _ _ (by decide), si_nc _ _ _ (by decide), si_at]
          have t34 : μ34.1 kP_reached p1 = if e = r1.2.2 then 1 else 0 := by
            rw [e34]
            unfold cA
            rw [si_nc _ _ _ (by decide), si_at]
            exact cRt0
          have d34 : μ34.1 kP_done p1 = if e = r1.2.2 then 1 else 0 := by
            rw [e34]
            unfold cA
            rw [si_at]
            exact cDn0
          have h34 : ∀ j, μ34.1 kH j = M.1 kH j := fun j => by rw [o34 kH (by decide) (by decide) (by decide), bO kH (by decide) (by decide) (by decide)]
          have q35 : hO1 p1 μ (m2_si μ34 kH 7 (μ34.1 kH 7 + 1)) := q34.h (by decide) (by decide)
          refine ⟨q35, ?_, fun _ => ⟨rfl, ?_, ?_, ?_, ?_, ?_, ?_, ?_, ?_, ?_⟩, fun w => absurd w (by rw [d0]; decide)⟩
          · rw [si_nj _ _ _ (by decide), h34]; exact m4
          · rw [si_at, h34, m7, nI_1]
          · rw [si_nc _ _ _ (by decide), w34, d1]
          · rw [si_nc _ _ _ (by decide), o34 _ (by decide) (by decide) (by decide), bF, d1]
          · rw [si_nc _ _ _ (by decide), o34 _ (by decide) (by decide) (by decide), bO _ (by decide) (by decide) (by decide)]; exact ms
          · rw [si_nc _ _ _ (by decide), o34 _ (by decide) (by decide) (by decide), bO _ (by decide) (by decide) (by decide), mw, d2]
          · rw [si_nc _ _ _ (by decide), o34 _ (by decide) (by decide) (by decide), bO _ (by decide) (by decide) (by decide), me, d3]
          · rw [si_nc _ _ _ (by decide), o34 _ (by decide) (by decide) (by decide), bO _ (by decide) (by decide) (by decide), mb, d4]
          · rw [si_nc _ _ _ (by decide), t34, d3, d1]
          · rw [si_nc _ _ _ (by decide), d34, d3, d1]
        refine ⟨_, S_takes (k := k) (c := 62) (by omega) _ (qA.tx tx) (qA.2.2.1.trans h3) eA4 p2.2 (by decide), fun y27 μ28 r28 => ?_⟩
        rcases r28 with ⟨ta, tb, tc⟩ | ⟨ta, tb, tc⟩
        · cases tb
          have ta : cp_hT 76 g k r2.2.1 = 62 := ta
          have hlt4 := hT_76 (c := 62) ta (by decide)
          rw [if_pos ta] at hRD
          refine ⟨fun w2 => absurd w2 (by decide), fun _ => ?_⟩
          have qB : hO1 p1 μ μ28 := by rw [tc]; exact qA.h (by decide) (by decide)
          have eB4 : μ28.1 kH 4 = nI (r2.2.1 + 1) := by rw [tc]; exact si_at _ _ _ _
          refine ⟨_, S_readNumber (h := 11) (k := k) (a := r2.2.1 + 1) (by omega) _ (qB.tx tx) (qB.2.2.1.trans h3) eB4 (by omega) (by decide), fun y38 μ39 r39 => ?_⟩
          have p3 := nmR_pos (g := g) (k := k) (a := r2.2.1 + 1) (hi := 11) (by omega)
          have r39 : ((nmR (cp_hT 76 g k) 11 (r2.2.1 + 1)).1 = true ∧ some (Value.int y38) = some (.int 1) ∧ μ39 = hS μ28 (nmR (cp_hT 76 g k) 11 (r2.2.1 + 1)).2.2 (nmR (cp_hT 76 g k) 11 (r2.2.1 + 1)).2.1) ∨ ((nmR (cp_hT 76 g k) 11 (r2.2.1 + 1)).1 = false ∧ some (Value.int y38) = some (.int 0) ∧ ∃ v, μ39 = hS μ28 v (nmR (cp_hT 76 g k) 11 (r2.2.1 + 1)).2.1) := r39
          generalize hr3 : nmR (cp_hT 76 g k) 11 (r2.2.1 + 1) = r3 at *
          rcases r39 with ⟨sa, sb, sc⟩ | ⟨sa, sb, sv, sc⟩
          · cases sb
            rw [if_pos sa] at hRD
            refine ⟨fun _ => ?_, fun w2 => absurd w2 (by decide)⟩
            have e5 : μ39.1 kH 5 = r3.2.2 := by rw [sc]; rfl
            rw [e5]
            have kk : ∀ c, c ≠ kH → μ39.1 c = MA.1 c := fun c hc => by rw [sc, hS_c _ _ _ hc, tc, si_nc _ _ _ hc]
            have qC : hO1 p1 μ (m2_si μ39 kP_errand p1 r3.2.2) := hO1.d (by rw [sc]; exact qB.s) (by decide)
            have eC4 : (m2_si μ39 kP_errand p1 r3.2.2).1 kH 4 = nI r3.2.1 := by rw [si_nc _ _ _ (by decide), sc]; rfl
            have eC7 : (m2_si μ39 kP_errand p1 r3.2.2).1 kH 7 = nI p1 := by
              rw [si_nc _ _ _ (by decide), sc, hS_j _ _ _ (by decide) (by decide), tc, si_nj _ _ _ (by decide)]
              exact eA7
            have eCs : (m2_si μ39 kP_errand p1 r3.2.2).1 kP_stranger p1 = (if cp_hT 76 g k a = 115 then 1 else 0) := by rw [si_nc _ _ _ (by decide), kk _ (by decide)]; exact eAs
            have eCw : (m2_si μ39 kP_errand p1 r3.2.2).1 kP_worth p1 = r2.2.2 := by rw [si_nc _ _ _ (by decide), kk _ (by decide)]; exact eAw
            have eCe : (m2_si μ39 kP_errand p1 r3.2.2).1 kP_errand p1 = r3.2.2 := si_at _ _ _ _
            generalize hMC : m2_si μ39 kP_errand p1 r3.2.2 = MC at qC eC4 eC7 eCs eCw eCe
            refine ⟨_, S_takes (k := k) (c := 60) (by omega) _ (qC.tx tx) (qC.2.2.1.trans h3) eC4 p3.2 (by decide), fun y45 μ46 r46 => ?_⟩
            rcases r46 with ⟨wa, wb, wc⟩ | ⟨wa, wb, wc⟩
            · cases wb
              have wa : cp_hT 76 g k r3.2.1 = 60 := wa
              rw [if_pos wa] at hRD
              rw [nar_1]
              subst wc
              refine fin (m2_si (m2_si MC kH 4 (nI (r3.2.1 + 1))) kP_back p1 1) r3.2.2 1 ((qC.h (by decide) (by decide)).d (by decide)) eC7 eCs eCw eCe (si_at _ _ _ _) ?_ (by rw [← hRD]) (by rw [← hRD]) (by rw [← hRD]) (by rw [← hRD]) (by rw [← hRD])
              rw [si_nc _ _ _ (by decide), si_at, ← hRD]
            · cases wb
              rw [if_neg (show ¬ cp_hT 76 g k r3.2.1 = 60 from fun z => wa z)] at hRD
              rw [nar_0]
              subst wc
              refine fin (m2_si μ46 kP_back p1 0) r3.2.2 0 (qC.d (by decide)) eC7 eCs eCw eCe (si_at _ _ _ _) ?_ (by rw [← hRD]) (by rw [← hRD]) (by rw [← hRD]) (by rw [← hRD]) (by rw [← hRD])
              rw [si_nc _ _ _ (by decide), ← hRD]
              exact eC4
          · cases sb
            rw [if_neg (by rw [sa]; decide)] at hRD
            refine ⟨fun w2 => absurd rfl w2, fun _ => ?_⟩
            subst hRD
            refine ⟨by rw [sc]; exact qB.s, by rw [sc]; rfl, fun w2 => absurd w2 (by simp), fun _ => ⟨rfl, ?_⟩⟩
            rw [sc, hS_j _ _ _ (by decide) (by decide), tc, si_nj _ _ _ (by decide)]
            exact eA7
        · cases tb
          rw [if_neg (show ¬ cp_hT 76 g k r2.2.1 = 62 from fun z => ta z)] at hRD
          refine ⟨fun _ => ?_, fun w2 => absurd rfl w2⟩
          subst tc
          exact fin μ28 (-1) 0 qA eA7 eAs eAw eAe eAb (by rw [← hRD]; exact eA4) (by rw [← hRD]) (by rw [← hRD]) (by rw [← hRD]) (by rw [← hRD]) (by rw [← hRD])
      · cases yb
        rw [if_neg (by rw [ya]; decide)] at hRD
        refine ⟨fun w2 => absurd rfl w2, fun _ => ?_⟩
        subst hRD
        refine ⟨by rw [yc]; exact q8.s, by rw [yc]; rfl, fun w2 => absurd w2 (by simp), fun _ => ⟨rfl, ?_⟩⟩
        rw [yc, hS_j _ _ _ (by decide) (by decide)]
        exact e87
    · cases zb
      rw [if_neg (show ¬ cp_hT 76 g k r1.2.1 = 44 from fun z => za z)] at hRD
      refine ⟨fun _ => ?_, fun w2 => absurd rfl w2⟩
      subst hRD
      subst zc
      exact ⟨q2, e24, fun w2 => absurd w2 (by simp), fun _ => ⟨rfl, e27⟩⟩
  · cases xb
    rw [if_neg (by rw [xa]; decide)] at hRD
    refine ⟨fun w => absurd rfl w, fun _ => ?_⟩
    subst hRD
    refine ⟨by rw [xc]; exact q0.s, by rw [xc]; rfl, fun w2 => absurd w2 (by simp), fun _ => ⟨rfl, ?_⟩⟩
    rw [xc, hS_j _ _ _ (by decide) (by decide)]
    exact e07
