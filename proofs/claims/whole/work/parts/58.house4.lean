/-! the reference reads one of PEOPLE; LINES -/
theorem ps_d {μ0 : m2M} {a c j : Nat} {w x : Int32} (h : kM ≠ c) : m2_si (ps μ0 a w) c j x = ps (m2_si μ0 c j x) a w := by
  unfold ps
  rw [m2_si_comm _ h, m2_si_comm μ0 h]
theorem rdC_d {μ0 : m2M} {g : Nat → Int32} {k c j : Nat} {x : Int32} (h : rdC μ0 g k 76) (h1 : c ≠ kM) (h2 : c ≠ kM_text) : rdC (m2_si μ0 c j x) g k 76 := by
  obtain ⟨⟨a1, a2, a3, a4⟩, a5⟩ := h
  have e : ∀ i, (m2_si μ0 c j x).1 kM i = μ0.1 kM i := fun i => by rw [si_nc _ _ _ (Ne.symm h1)]
  refine ⟨⟨(e 24).trans a1, a2, (e 25).trans a3, a4⟩, ?_⟩
  rcases a5 with ⟨b1, b2⟩ | ⟨_, _, b3⟩
  · exact Or.inl ⟨(e 23).trans b1, by rw [si_nc _ _ _ (Ne.symm h2)]; exact b2⟩
  · exact absurd b3 (by decide)
theorem S_readOneM {D k a p1 : Nat} {g : Nat → Int32} {s : Int32} (hs : s = 0 ∨ s = 1) (hD : 3 ≤ D) (μ0 : m2M) (h : rdC μ0 g k 76) (ha : a ≤ 76) (hp : p1 < 8) (h7 : μ0.1 kM 7 = nI p1) : m2_MT D yX12_readOne cX12_readOne 5 none [.ref kM, .int s] (ps μ0 a (-1)) (fun _ μ' => ((rdO (cp_hT 76 g k) a).1 = true ∧ μ' = adO (ps μ0 (rdO (cp_hT 76 g k) a).2.1 (-1)) p1 s (rdO (cp_hT 76 g k) a).2.2) ∨ ((rdO (cp_hT 76 g k) a).1 = false ∧ jO p1 μ0 μ' ∧ μ'.1 kM 27 = nI (rdO (cp_hT 76 g k) a).2.1)) := by
  obtain ⟨D, rfl⟩ : ∃ E, D = E + 1 := ⟨D - 1, by omega⟩
  generalize hRD : rdO (cp_hT 76 g k) a = RD
  refine m2_MT.intro (ls := [.ref kM, .int s, .null, .null, .null]) (by decide +kernel) rfl (ble rfl) (fun κ hk => ?_)
  unfold rdO at hRD
  simp only at hRD
  have e7 : ∀ b w, (ps μ0 b w).1 kM 7 = nI p1 := fun b w => (ps_k (by decide) (by decide)).trans h7
  have nz : ∀ (b : Nat), b ≤ 76 → nI b ≠ -1 := fun b hb => nI_ne_m1 (by omega)
  have nb : ∀ x : Int32, x = 0 ∨ x = 1 → vp_nar .boolean x = x := fun x hx => nar_b hx
  -- the end of one that is wrong
  have endF : ∀ (b : Nat) (w y1 y11 er bk : Int32), y1 ≠ -1 → RD.1 = false → w = nI RD.2.1 → ∃ Q32 : Option Value → m2M → Prop, m2_MT D yX12_arrive cX12_arrive 2 none [.ref kM, .int (nI p1)] (adO0 (ps μ0 b w) p1 s (y1, y11, er, bk)) Q32 ∧ ∀ (μ31 : m2M), Q32 none μ31 → ((RD.1 = true ∧ m2_si μ31 kM 7 (μ31.1 kM 7 + 1) = adO (ps μ0 RD.2.1 (-1)) p1 s RD.2.2) ∨ (RD.1 = false ∧ jO p1 μ0 (m2_si μ31 kM 7 (μ31.1 kM 7 + 1)) ∧ (m2_si μ31 kM 7 (μ31.1 kM 7 + 1)).1 kM 27 = nI RD.2.1)) := by
    intro b w y1 y11 er bk hy hf hw
    refine ⟨_, S_arrive0 hp (ps μ0 b w) s (y1, y11, er, bk) hy, fun μ31 e31 => Or.inr ⟨hf, ?_, ?_⟩⟩
    · rw [e31]
      exact (jO_gA (jO_a0 (jO.rf.p))).k (by omega)
    · rw [si_nj _ _ _ (by decide), e31, gA_k, adO0_k]
      exact hw
  have endT : ∀ (b : Nat) (y1 y11 er bk : Int32), y1 ≠ -1 → RD = (true, b, y1, y11, er, bk) → ∃ Q32 : Option Value → m2M → Prop, m2_MT D yX12_arrive cX12_arrive 2 none [.ref kM, .int (nI p1)] (adO0 (ps μ0 b (-1)) p1 s (y1, y11, er, bk)) Q32 ∧ ∀ (μ31 : m2M), Q32 none μ31 → ((RD.1 = true ∧ m2_si μ31 kM 7 (μ31.1 kM 7 + 1) = adO (ps μ0 RD.2.1 (-1)) p1 s RD.2.2) ∨ (RD.1 = false ∧ jO p1 μ0 (m2_si μ31 kM 7 (μ31.1 kM 7 + 1)) ∧ (m2_si μ31 kM 7 (μ31.1 kM 7 + 1)).1 kM 27 = nI RD.2.1)) := by
    intro b y1 y11 er bk hy hR
    refine ⟨_, S_arrive0 hp (ps μ0 b (-1)) s (y1, y11, er, bk) hy, fun μ31 e31 => Or.inl ⟨by rw [hR], ?_⟩⟩
    have : μ31.1 kM 7 = nI p1 := by rw [e31, gA_k, adO0_k]; exact e7 _ _
    rw [this, nI_1, e31, hR]
    rfl
  -- nothing more is read behind the ROOM
  have dead : ∀ (b : Nat) (w y1 : Int32), b ≤ 76 → w ≠ -1 → y1 ≠ -1 → RD.1 = false → w = nI RD.2.1 → ∃ Q13 : Option Value → m2M → Prop, m2_MT D yX12_number cX12_number 5 (some .int) [.ref kM, .int 2, .int 99] (ps μ0 b w) Q13 ∧ ∀ (y11 : Int32) (μ12 : m2M), Q13 (some (.int y11)) μ12 → y11 = 0 ∧ μ12 = ps μ0 b w := by
    intro b w y1 hb hw hy hf hp'
    refine ⟨_, S_numW (by omega) μ0 h hb hw, fun y11 μ12 r12 => ?_⟩
    obtain ⟨ua, ub⟩ := r12
    cases ua
    exact ⟨rfl, ub⟩
  have deadP : ∀ (b : Nat) (w : Int32), b ≤ 76 → w ≠ -1 → ∃ Q18 : Option Value → m2M → Prop, m2_MT D yX12_passes cX12_passes 2 (some .boolean) [.ref kM, .int 62] (ps μ0 b w) Q18 ∧ ∀ (y16 : Int32) (μ17 : m2M), Q18 (some (.int y16)) μ17 → y16 = 0 ∧ μ17 = ps μ0 b w := by
    intro b w hb hw
    refine ⟨_, S_passes (by omega) μ0 h (by omega), fun y16 μ17 r17 => ?_⟩
    rcases r17 with ⟨xa, _⟩ | ⟨_, xb, xc⟩
    · exact absurd xa hw
    · cases xb
      exact ⟨rfl, xc⟩
  refine B_X12_readOne_0 hk ⟨_, S_numR (by omega) μ0 h ha, fun y1 μ2 r2 => ?_⟩
  have p1' := nmR_pos (g := g) (k := k) (a := a) (hi := 11) ha
  have v1' := nmR_val (hf := cp_hT 76 g k) (a := a) (h := 11) (by decide)
  have v1' : (nmR (cp_hT 76 g k) 11 a).1 = true → in_ 12 (nmR (cp_hT 76 g k) 11 a).2.2 := v1'
  generalize hr1 : nmR (cp_hT 76 g k) 11 a = r1 at *
  rcases r2 with ⟨xa, xb, xc⟩ | ⟨xa, xb, b, hb, xc⟩
  · cases xb
    subst xc
    rw [if_pos xa] at hRD
    have hy1 : r1.2.2 ≠ -1 := by
      obtain ⟨x, hx, ex⟩ := v1' xa
      rw [ex]
      exact nI_ne_m1 (by omega)
    refine ⟨_, S_need (by omega) μ0 h (by omega), fun μ7 r7 => ?_⟩
    rcases r7 with ⟨_, za, zb⟩ | ⟨za, zb⟩
    · subst zb
      have za : cp_hT 76 g k r1.2.1 = 44 := za
      have hlt3 := hT_76 (c := 44) za (by decide)
      rw [if_pos za] at hRD
      refine ⟨_, S_numR (by omega) μ0 h (by omega), fun y11 μ12 r12 => ?_⟩
      have p2 := nmR_pos (g := g) (k := k) (a := r1.2.1 + 1) (hi := 99) (by omega)
      generalize hr2 : nmR (cp_hT 76 g k) 99 (r1.2.1 + 1) = r2 at *
      rcases r12 with ⟨ya, yb, yc⟩ | ⟨ya, yb, b, hb, yc⟩
      · cases yb
        subst yc
        rw [if_pos ya] at hRD
        refine ⟨_, S_passes (by omega) μ0 h (by omega), fun y16 μ17 r17 => ?_⟩
        rcases r17 with ⟨_, ta, tb, tc⟩ | ⟨ta, tb, tc⟩
        · cases tb
          subst tc
          have ta : cp_hT 76 g k r2.2.1 = 62 := ta
          have hlt4 := hT_76 (c := 62) ta (by decide)
          rw [if_pos ta] at hRD
          refine ⟨fun z => absurd z (by decide), fun _ => ⟨_, S_numR (by omega) μ0 h (by omega), fun y35 μ36 r36 => ?_⟩⟩
          have p3 := nmR_pos (g := g) (k := k) (a := r2.2.1 + 1) (hi := 11) (by omega)
          have v3 : (nmR (cp_hT 76 g k) 11 (r2.2.1 + 1)).1 = true → in_ 12 (nmR (cp_hT 76 g k) 11 (r2.2.1 + 1)).2.2 := nmR_val (hf := cp_hT 76 g k) (a := r2.2.1 + 1) (h := 11) (by decide)
          generalize hr3 : nmR (cp_hT 76 g k) 11 (r2.2.1 + 1) = r3 at *
          -- the 5 writes
          let B5 : Int32 → m2M := fun er => m2_si (m2_si (m2_si (m2_si (m2_si μ0 kM_where p1 r1.2.2) kM_home p1 r1.2.2) kM_isStranger p1 s) kM_worth p1 r2.2.2) kM_errand p1 er
          have c5 : ∀ (b : Nat) (w er : Int32), m2_si (m2_si (m2_si (m2_si (m2_si (ps μ0 b w) kM_where p1 r1.2.2) kM_home p1 r1.2.2) kM_isStranger p1 s) kM_worth p1 r2.2.2) kM_errand p1 er = ps (B5 er) b w := by
            intro b w er
            rw [ps_d (by decide), ps_d (by decide), ps_d (by decide), ps_d (by decide), ps_d (by decide)]
          have h5 : ∀ er, rdC (B5 er) g k 76 := fun er => rdC_d (rdC_d (rdC_d (rdC_d (rdC_d h (by decide) (by decide)) (by decide) (by decide)) (by decide) (by decide)) (by decide) (by decide)) (by decide) (by decide)
          have e57 : ∀ er b w, (ps (B5 er) b w).1 kM 7 = nI p1 := fun er b w => by rw [← c5, si_nc _ _ _ (by decide), si_nc _ _ _ (by decide), si_nc _ _ _ (by decide), si_nc _ _ _ (by decide), si_nc _ _ _ (by decide)]; exact e7 b w
          rcases r36 with ⟨sa, sb, sc⟩ | ⟨sa, sb, b, hb, sc⟩
          · cases sb
            subst sc
            rw [if_pos sa] at hRD
            have hy3 : r3.2.2 ≠ -1 := by
              obtain ⟨x, hx, ex⟩ := v3 sa
              rw [ex]
              exact nI_ne_m1 (by omega)
            rw [e7, nI_clamp (by omega), nb s hs]
            refine ⟨vp_in_nI hp (by decide), fun z => absurd z hy3, fun _ => ?_⟩
            rw [c5]
            refine ⟨_, S_passes (by omega) (B5 r3.2.2) (h5 _) (by omega), fun y54 μ55 r55 => ?_⟩
            rcases r55 with ⟨_, wa, wb, wc⟩ | ⟨wa, wb, wc⟩
            · cases wb
              subst wc
              have wa : cp_hT 76 g k r3.2.1 = 60 := wa
              rw [if_pos wa] at hRD
              rw [e57, nI_clamp (by omega), ← c5, if_neg (show ¬ (1 : Int32) = 0 by decide), nar_1, nar_0]
              exact ⟨vp_in_nI hp (by decide), endT (r3.2.1 + 1) r1.2.2 r2.2.2 r3.2.2 1 hy1 hRD.symm⟩
            · cases wb
              subst wc
              rw [if_neg (show ¬ cp_hT 76 g k r3.2.1 = 60 from fun z => wa ⟨rfl, z⟩)] at hRD
              rw [e57, nI_clamp (by omega), ← c5, if_pos rfl, nar_0]
              exact ⟨vp_in_nI hp (by decide), endT r3.2.1 r1.2.2 r2.2.2 r3.2.2 0 hy1 hRD.symm⟩
          · cases sb
            subst sc
            rw [if_neg (by rw [sa]; decide)] at hRD
            have hw := nz r3.2.1 p3.2
            rw [e7, nI_clamp (by omega), nb s hs]
            refine ⟨vp_in_nI hp (by decide), fun z => absurd z (by decide), fun _ => ?_⟩
            rw [c5]
            refine ⟨_, S_passes (by omega) (B5 0) (h5 _) (by omega), fun y54 μ55 r55 => ?_⟩
            rcases r55 with ⟨wa, _⟩ | ⟨_, wb, wc⟩
            · exact absurd wa hw
            · cases wb
              subst wc
              rw [e57, nI_clamp (by omega), ← c5, if_pos rfl, nar_0]
              exact ⟨vp_in_nI hp (by decide), endF b _ r1.2.2 r2.2.2 0 0 hy1 (by rw [← hRD]) (by rw [← hRD])⟩
        · cases tb
          subst tc
          rw [if_neg (show ¬ cp_hT 76 g k r2.2.1 = 62 from fun z => ta ⟨rfl, z⟩)] at hRD
          refine ⟨fun _ => ?_, fun z => absurd rfl z⟩
          rw [e7, nI_clamp (by omega), nb s hs, nar_0]
          exact ⟨vp_in_nI hp (by decide), endT r2.2.1 r1.2.2 r2.2.2 (-1) 0 hy1 hRD.symm⟩
      · cases yb
        subst yc
        rw [if_neg (by rw [ya]; decide)] at hRD
        have hw := nz r2.2.1 p2.2
        obtain ⟨Q18, m18, k18⟩ := deadP b _ hb hw
        refine ⟨Q18, m18, fun y16 μ17 r17 => ?_⟩
        obtain ⟨xe, xf⟩ := k18 y16 μ17 r17
        subst xe
        subst xf
        refine ⟨fun _ => ?_, fun z => absurd rfl z⟩
        rw [e7, nI_clamp (by omega), nb s hs, nar_0]
        exact ⟨vp_in_nI hp (by decide), endF b _ r1.2.2 0 (-1) 0 hy1 (by rw [← hRD]) (by rw [← hRD])⟩
    · have za : ¬ cp_hT 76 g k r1.2.1 = 44 := fun z => za ⟨rfl, z⟩
      rw [if_neg za] at hRD
      rw [if_pos rfl] at zb
      subst zb
      have hw := nz r1.2.1 p1'.2
      obtain ⟨Q13, m13, k13⟩ := dead r1.2.1 _ r1.2.2 p1'.2 hw hy1 (by rw [← hRD]) (by rw [← hRD])
      refine ⟨Q13, m13, fun y11 μ12 r12 => ?_⟩
      obtain ⟨xe, xf⟩ := k13 y11 μ12 r12
      subst xe
      subst xf
      obtain ⟨Q18, m18, k18⟩ := deadP r1.2.1 _ p1'.2 hw
      refine ⟨Q18, m18, fun y16 μ17 r17 => ?_⟩
      obtain ⟨xe, xf⟩ := k18 y16 μ17 r17
      subst xe
      subst xf
      refine ⟨fun _ => ?_, fun z => absurd rfl z⟩
      rw [e7, nI_clamp (by omega), nb s hs, nar_0]
      exact ⟨vp_in_nI hp (by decide), endF r1.2.1 _ r1.2.2 0 (-1) 0 hy1 (by rw [← hRD]) (by rw [← hRD])⟩
  · cases xb
    subst xc
    rw [if_neg (by rw [xa]; decide)] at hRD
    have hw := nz r1.2.1 p1'.2
    have hy0 : (0 : Int32) ≠ -1 := by decide
    refine ⟨_, S_need (by omega) μ0 h (by omega), fun μ7 r7 => ?_⟩
    rcases r7 with ⟨ya, _⟩ | ⟨_, yb⟩
    · exact absurd ya hw
    · rw [if_neg hw] at yb
      subst yb
      obtain ⟨Q13, m13, k13⟩ := dead b _ 0 hb hw hy0 (by rw [← hRD]) (by rw [← hRD])
      refine ⟨Q13, m13, fun y11 μ12 r12 => ?_⟩
      obtain ⟨xe, xf⟩ := k13 y11 μ12 r12
      subst xe
      subst xf
      obtain ⟨Q18, m18, k18⟩ := deadP b _ hb hw
      refine ⟨Q18, m18, fun y16 μ17 r17 => ?_⟩
      obtain ⟨xe, xf⟩ := k18 y16 μ17 r17
      subst xe
      subst xf
      refine ⟨fun _ => ?_, fun z => absurd rfl z⟩
      rw [e7, nI_clamp (by omega), nb s hs, nar_0]
      exact ⟨vp_in_nI hp (by decide), endF b _ 0 0 (-1) 0 hy0 (by rw [← hRD]) (by rw [← hRD])⟩
