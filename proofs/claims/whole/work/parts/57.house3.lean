/-! the reference reads a LINE -/
def adD (ν : m2M) (n1 : Nat) (R : Int32 × Int32 × Int32 × Int32 × Int32) : m2M := m2_si (m2_si (m2_si (m2_si (m2_si (m2_si (m2_si ν kM_doorA n1 R.1) kM_doorB n1 R.2.1) kM_isOneWay n1 R.2.2.1) kM_lets n1 R.2.2.2.1) kM_left n1 R.2.2.2.1) kM_atNoon n1 R.2.2.2.2) kM 0 (nI (n1 + 1))
def adO0 (ν : m2M) (p1 : Nat) (s : Int32) (R : Int32 × Int32 × Int32 × Int32) : m2M := m2_si (m2_si (m2_si (m2_si (m2_si (m2_si (m2_si (m2_si ν kM_where p1 R.1) kM_home p1 R.1) kM_isStranger p1 s) kM_worth p1 R.2.1) kM_errand p1 R.2.2.1) kM_comesBack p1 R.2.2.2) kM_wasThere p1 0) kM_isDone p1 0
def adO (ν : m2M) (p1 : Nat) (s : Int32) (R : Int32 × Int32 × Int32 × Int32) : m2M := m2_si (gA (adO0 ν p1 s R) p1 R.1) kM 7 (nI (p1 + 1))
/-- only this DOOR, only this one of PEOPLE, and where it reads -/
def jD (n1 : Nat) (μ μ' : m2M) : Prop := fr (fun c => (c == kM) || (Nat.ble 66 c && Nat.ble c 71)) μ μ' ∧ (∀ c j, 66 ≤ c → c ≤ 71 → j ≠ n1 → μ'.1 c j = μ.1 c j) ∧ ∀ j, j ≠ 0 → j ≠ 26 → j ≠ 27 → μ'.1 kM j = μ.1 kM j
def jO (n1 : Nat) (μ μ' : m2M) : Prop := fr (fun c => (c == kM) || (Nat.ble 72 c && Nat.ble c 79)) μ μ' ∧ (∀ c j, 72 ≤ c → c ≤ 79 → j ≠ n1 → μ'.1 c j = μ.1 c j) ∧ ∀ j, j ≠ 7 → j ≠ 26 → j ≠ 27 → μ'.1 kM j = μ.1 kM j
theorem jD.rf {n1 : Nat} {μ : m2M} : jD n1 μ μ := ⟨fr.rf, fun _ _ _ _ _ => rfl, fun _ _ _ _ => rfl⟩
theorem jO.rf {n1 : Nat} {μ : m2M} : jO n1 μ μ := ⟨fr.rf, fun _ _ _ _ _ => rfl, fun _ _ _ _ => rfl⟩
theorem jD.k {n1 : Nat} {μ μ' : m2M} {j : Nat} {x : Int32} (q : jD n1 μ μ') (h : j = 0 ∨ j = 26 ∨ j = 27) : jD n1 μ (m2_si μ' kM j x) := ⟨fr_si rfl q.1, fun c i h1 h2 hi => by rw [si_nc _ _ _ (by have : kM = 65 := rfl; omega)]; exact q.2.1 c i h1 h2 hi, fun i a b c => by rw [si_nj _ _ _ (by omega)]; exact q.2.2 i a b c⟩
theorem jO.k {n1 : Nat} {μ μ' : m2M} {j : Nat} {x : Int32} (q : jO n1 μ μ') (h : j = 7 ∨ j = 26 ∨ j = 27) : jO n1 μ (m2_si μ' kM j x) := ⟨fr_si rfl q.1, fun c i h1 h2 hi => by rw [si_nc _ _ _ (by have : kM = 65 := rfl; omega)]; exact q.2.1 c i h1 h2 hi, fun i a b c => by rw [si_nj _ _ _ (by omega)]; exact q.2.2 i a b c⟩
theorem jD.d {n1 : Nat} {μ μ' : m2M} {c : Nat} {x : Int32} (q : jD n1 μ μ') (h : 66 ≤ c ∧ c ≤ 71) : jD n1 μ (m2_si μ' c n1 x) := by
  have e : kM = 65 := rfl
  refine ⟨fr_si (by simp only [Bool.or_eq_true, Bool.and_eq_true, Nat.ble_eq]; exact Or.inr h) q.1, fun c' i h1 h2 hi => ?_, fun i a b c => by rw [si_nc _ _ _ (by omega)]; exact q.2.2 i a b c⟩
  by_cases z : c' = c
  · subst z; rw [si_nj _ _ _ hi]; exact q.2.1 c' i h1 h2 hi
  · rw [si_nc _ _ _ z]; exact q.2.1 c' i h1 h2 hi
theorem jO.d {n1 : Nat} {μ μ' : m2M} {c : Nat} {x : Int32} (q : jO n1 μ μ') (h : 72 ≤ c ∧ c ≤ 79) : jO n1 μ (m2_si μ' c n1 x) := by
  have e : kM = 65 := rfl
  refine ⟨fr_si (by simp only [Bool.or_eq_true, Bool.and_eq_true, Nat.ble_eq]; exact Or.inr h) q.1, fun c' i h1 h2 hi => ?_, fun i a b c => by rw [si_nc _ _ _ (by omega)]; exact q.2.2 i a b c⟩
  by_cases z : c' = c
  · subst z; rw [si_nj _ _ _ hi]; exact q.2.1 c' i h1 h2 hi
  · rw [si_nc _ _ _ z]; exact q.2.1 c' i h1 h2 hi
theorem jD.p {n1 : Nat} {μ μ' : m2M} {a : Nat} {w : Int32} (q : jD n1 μ μ') : jD n1 μ (ps μ' a w) := (q.k (by omega)).k (by omega)
theorem jO.p {n1 : Nat} {μ μ' : m2M} {a : Nat} {w : Int32} (q : jO n1 μ μ') : jO n1 μ (ps μ' a w) := (q.k (by omega)).k (by omega)
theorem jD_ad {n1 : Nat} {μ μ' : m2M} {R : Int32 × Int32 × Int32 × Int32 × Int32} (q : jD n1 μ μ') : jD n1 μ (adD μ' n1 R) := ((((((q.d (by decide)).d (by decide)).d (by decide)).d (by decide)).d (by decide)).d (by decide)).k (by omega)
/-- a number of a house -/
theorem S_numR {D a k : Nat} {g : Nat → Int32} {hi : Int32} (hD : 2 ≤ D) (μ0 : m2M) (h : rdC μ0 g k 76) (ha : a ≤ 76) : m2_MT D yX12_number cX12_number 5 (some .int) [.ref kM, .int 2, .int hi] (ps μ0 a (-1)) (fun r μ' => ((nmR (cp_hT 76 g k) hi a).1 = true ∧ r = some (.int (nmR (cp_hT 76 g k) hi a).2.2) ∧ μ' = ps μ0 (nmR (cp_hT 76 g k) hi a).2.1 (-1)) ∨ ((nmR (cp_hT 76 g k) hi a).1 = false ∧ r = some (.int 0) ∧ ∃ b, b ≤ 76 ∧ μ' = ps μ0 b (nI (nmR (cp_hT 76 g k) hi a).2.1))) := by
  refine (S_number (j := 2) (w := -1) (hi := hi) hD μ0 h ha (by decide)).mono ?_
  obtain ⟨h1, h2, h3⟩ := nH_pos (top := 76) (k := k) (g := g) 2 a 0 ha
  rintro r μ' (⟨xa, _⟩ | ⟨_, ⟨xa, xb, xc⟩ | ⟨xa, ⟨xb, xc, xd⟩ | ⟨xb, xc, xd⟩⟩⟩)
  · exact absurd rfl xa
  · unfold nmR
    rw [if_pos xa]
    exact Or.inr ⟨rfl, xb, a, ha, xc⟩
  · unfold nmR
    rw [if_neg xa, if_pos xb]
    exact Or.inl ⟨rfl, xc, xd⟩
  · unfold nmR
    rw [if_neg xa, if_neg xb]
    refine Or.inr ⟨rfl, xc, _, h2, ?_⟩
    rw [xd, pred_nI (by omega)]
theorem S_numW {D a k : Nat} {g : Nat → Int32} {hi w : Int32} (hD : 2 ≤ D) (μ0 : m2M) (h : rdC μ0 g k 76) (ha : a ≤ 76) (hw : w ≠ -1) : m2_MT D yX12_number cX12_number 5 (some .int) [.ref kM, .int 2, .int hi] (ps μ0 a w) (fun r μ' => r = some (.int 0) ∧ μ' = ps μ0 a w) := by
  refine (S_number (j := 2) (w := w) (hi := hi) hD μ0 h ha (by decide)).mono ?_
  rintro r μ' (⟨_, xb, xc⟩ | ⟨xa, _⟩)
  · exact ⟨xb, xc⟩
  · exact absurd xa hw
theorem ps_k {μ0 : m2M} {a : Nat} {w : Int32} {j : Nat} (h1 : j ≠ 26) (h2 : j ≠ 27) : (ps μ0 a w).1 kM j = μ0.1 kM j := by
  unfold ps
  rw [si_nj _ _ _ h2, si_nj _ _ _ h1]
theorem S_readDoorM {D k a n1 : Nat} {g : Nat → Int32} (hD : 3 ≤ D) (μ0 : m2M) (h : rdC μ0 g k 76) (ha : a ≤ 76) (hn : n1 < 20) (h0 : μ0.1 kM 0 = nI n1) : m2_MT D yX12_readDoor cX12_readDoor 6 none [.ref kM] (ps μ0 a (-1)) (fun _ μ' => ((rdD (cp_hT 76 g k) a).1 = true ∧ μ' = adD (ps μ0 (rdD (cp_hT 76 g k) a).2.1 (-1)) n1 (rdD (cp_hT 76 g k) a).2.2) ∨ ((rdD (cp_hT 76 g k) a).1 = false ∧ jD n1 μ0 μ' ∧ μ'.1 kM 27 = nI (rdD (cp_hT 76 g k) a).2.1)) := by
  obtain ⟨D, rfl⟩ : ∃ E, D = E + 1 := ⟨D - 1, by omega⟩
  generalize hRD : rdD (cp_hT 76 g k) a = RD
  refine m2_MT.intro (ls := [.ref kM, .null, .null, .null, .null, .null]) (by decide +kernel) rfl (ble rfl) (fun κ hk => ?_)
  unfold rdD at hRD
  simp only at hRD
  have e0 : ∀ b w, (ps μ0 b w).1 kM 0 = nI n1 := fun b w => (ps_k (by decide) (by decide)).trans h0
  have nz : ∀ (b : Nat), b ≤ 76 → nI b ≠ -1 := fun b hb => nI_ne_m1 (by omega)
  -- nothing more is read
  have dead55 : ∀ (b : Nat) (w v1 v2 v3 : Int32), b ≤ 76 → w ≠ -1 → RD.1 = false → w = nI RD.2.1 → κ 55 [.ref kM, .int v1, .int v2, .int v3, .null, .null] [] (ps μ0 b w) := by
    intro b w v1 v2 v3 hb hw hf hp
    refine B_X12_readDoor_55 hk ⟨_, S_need (by omega) μ0 h (by omega), fun μ2 r2 => ?_⟩
    rcases r2 with ⟨xa, _⟩ | ⟨_, xb⟩
    · exact absurd xa hw
    · rw [if_neg hw] at xb
      subst xb
      refine ⟨_, S_numW (by omega) μ0 h hb hw, fun y6 μ7 r7 => ?_⟩
      obtain ⟨ya, yb⟩ := r7
      cases ya
      subst yb
      refine ⟨_, S_passes (by omega) μ0 h (by omega), fun y11 μ12 r12 => ?_⟩
      rcases r12 with ⟨xa, _⟩ | ⟨_, xb, xc⟩
      · exact absurd xa hw
      · cases xb
        subst xc
        refine ⟨fun _ => ?_, fun z => absurd rfl z⟩
        rw [e0, nI_clamp (by omega)]
        refine ⟨vp_in_nI hn (by decide), Or.inr ⟨hf, (((((((jD.rf.p).d (by decide)).d (by decide)).d (by decide)).d (by decide)).d (by decide)).d (by decide)).k (by omega), ?_⟩⟩
        rw [si_nj _ _ _ (by decide)]
        exact hp
  have dead25 : ∀ (b : Nat) (w v1 v2 : Int32), b ≤ 76 → w ≠ -1 → RD.1 = false → w = nI RD.2.1 → κ 25 [.ref kM, .int v1, .int v2, .null, .null, .null] [] (ps μ0 b w) := by
    intro b w v1 v2 hb hw hf hp
    refine B_X12_readDoor_25 hk (Nat.zero_le _) ⟨_, S_numW (by omega) μ0 h hb hw, fun y1 μ2 r2 => ?_⟩
    obtain ⟨ya, yb⟩ := r2
    cases ya
    subst yb
    exact ⟨fun z => absurd ((ps_fine μ0 b w).mp z) hw, fun _ => dead55 b w _ _ _ hb hw hf hp⟩
  refine B_X12_readDoor_0 hk ⟨_, S_numR (by omega) μ0 h ha, fun y1 μ2 r2 => ?_⟩
  have p1 := nmR_pos (g := g) (k := k) (a := a) (hi := 11) ha
  generalize hr1 : nmR (cp_hT 76 g k) 11 a = r1 at *
  rcases r2 with ⟨xa, xb, xc⟩ | ⟨xa, xb, b, hb, xc⟩
  · cases xb
    subst xc
    rw [if_pos xa] at hRD
    -- behind - or >
    have rest : ∀ one : Int32, (cp_hT 76 g k r1.2.1 = 62 ∨ cp_hT 76 g k r1.2.1 = 45) → r1.2.1 < 76 → one = (if cp_hT 76 g k r1.2.1 = 62 then 1 else 0) → κ 25 [.ref kM, .int r1.2.2, .int one, .null, .null, .null] [] (ps μ0 (r1.2.1 + 1) (-1)) := by
      intro one hs hlt hone
      rw [if_pos hs] at hRD
      refine B_X12_readDoor_25 hk (Nat.zero_le _) ⟨_, S_numR (by omega) μ0 h (by omega), fun y1 μ2 r2 => ?_⟩
      have p2 := nmR_pos (g := g) (k := k) (a := r1.2.1 + 1) (hi := 11) (by omega)
      generalize hr2 : nmR (cp_hT 76 g k) 11 (r1.2.1 + 1) = r3 at *
      rcases r2 with ⟨ya, yb, yc⟩ | ⟨ya, yb, b, hb, yc⟩
      · cases yb
        subst yc
        rw [if_pos ya] at hRD
        refine ⟨fun _ => ⟨fun w => ?_, fun w => ?_⟩, fun z => absurd ((ps_fine _ _ _).mpr rfl) z⟩
        · rw [if_neg (fun z => w z.symm)] at hRD
          refine B_X12_readDoor_55 hk ⟨_, S_need (by omega) μ0 h (by omega), fun μ2 r2 => ?_⟩
          rcases r2 with ⟨_, za, zb⟩ | ⟨za, zb⟩
          · subst zb
            have za : cp_hT 76 g k r3.2.1 = 44 := za
            have hlt3 := hT_76 (c := 44) za (by decide)
            rw [if_pos za] at hRD
            refine ⟨_, S_numR (by omega) μ0 h (by omega), fun y6 μ7 r7 => ?_⟩
            have p3 := nmR_pos (g := g) (k := k) (a := r3.2.1 + 1) (hi := 60) (by omega)
            generalize hr4 : nmR (cp_hT 76 g k) 60 (r3.2.1 + 1) = r4 at *
            rcases r7 with ⟨ua, ub, uc⟩ | ⟨ua, ub, b, hb, uc⟩
            · cases ub
              subst uc
              rw [if_pos ua] at hRD
              refine ⟨_, S_passes (by omega) μ0 h (by omega), fun y11 μ12 r12 => ?_⟩
              rcases r12 with ⟨_, ta, tb, tc⟩ | ⟨ta, tb, tc⟩
              · cases tb
                subst tc
                have ta : cp_hT 76 g k r4.2.1 = 64 := ta
                have hlt4 := hT_76 (c := 64) ta (by decide)
                rw [if_pos ta] at hRD
                refine ⟨fun z => absurd z (by decide), fun _ => ⟨_, S_numR (by omega) μ0 h (by omega), fun y23 μ24 r24 => ?_⟩⟩
                generalize hr5 : nmR (cp_hT 76 g k) 60 (r4.2.1 + 1) = r5 at *
                rcases r24 with ⟨sa, sb, sc⟩ | ⟨sa, sb, b, hb, sc⟩
                · cases sb
                  subst sc
                  rw [if_pos sa] at hRD
                  rw [e0, nI_clamp (by omega), nI_1]
                  refine ⟨vp_in_nI hn (by decide), Or.inl ⟨by rw [← hRD], ?_⟩⟩
                  subst hRD
                  unfold adD
                  rw [hone, nar_if]
                · cases sb
                  subst sc
                  rw [if_neg (by rw [sa]; decide)] at hRD
                  rw [e0, nI_clamp (by omega)]
                  refine ⟨vp_in_nI hn (by decide), Or.inr ⟨by rw [← hRD], (((((((jD.rf.p).d (by decide)).d (by decide)).d (by decide)).d (by decide)).d (by decide)).d (by decide)).k (by omega), ?_⟩⟩
                  rw [si_nj _ _ _ (by decide), ← hRD]
                  rfl
              · cases tb
                subst tc
                rw [if_neg (show ¬ cp_hT 76 g k r4.2.1 = 64 from fun z => ta ⟨rfl, z⟩)] at hRD
                refine ⟨fun _ => ?_, fun z => absurd rfl z⟩
                rw [e0, nI_clamp (by omega), nI_1]
                refine ⟨vp_in_nI hn (by decide), Or.inl ⟨by rw [← hRD], ?_⟩⟩
                subst hRD
                unfold adD
                rw [hone, nar_if]
            · cases ub
              subst uc
              rw [if_neg (by rw [ua]; decide)] at hRD
              have hw := nz r4.2.1 p3.2
              refine ⟨_, S_passes (by omega) μ0 h (by omega), fun y11 μ12 r12 => ?_⟩
              rcases r12 with ⟨ta, _⟩ | ⟨_, tb, tc⟩
              · exact absurd ta hw
              · cases tb
                subst tc
                refine ⟨fun _ => ?_, fun z => absurd rfl z⟩
                rw [e0, nI_clamp (by omega)]
                refine ⟨vp_in_nI hn (by decide), Or.inr ⟨by rw [← hRD], (((((((jD.rf.p).d (by decide)).d (by decide)).d (by decide)).d (by decide)).d (by decide)).d (by decide)).k (by omega), ?_⟩⟩
                rw [si_nj _ _ _ (by decide), ← hRD]
                rfl
          · have za : ¬ cp_hT 76 g k r3.2.1 = 44 := fun z => za ⟨rfl, z⟩
            rw [if_neg za] at hRD
            rw [if_pos rfl] at zb
            subst zb
            have hw := nz r3.2.1 p2.2
            refine ⟨_, S_numW (by omega) μ0 h p2.2 hw, fun y6 μ7 r7 => ?_⟩
            obtain ⟨ua, ub⟩ := r7
            cases ua
            subst ub
            refine ⟨_, S_passes (by omega) μ0 h (by omega), fun y11 μ12 r12 => ?_⟩
            rcases r12 with ⟨ta, _⟩ | ⟨_, tb, tc⟩
            · exact absurd ta hw
            · cases tb
              subst tc
              refine ⟨fun _ => ?_, fun z => absurd rfl z⟩
              rw [e0, nI_clamp (by omega)]
              refine ⟨vp_in_nI hn (by decide), Or.inr ⟨by rw [← hRD], (((((((jD.rf.p).d (by decide)).d (by decide)).d (by decide)).d (by decide)).d (by decide)).d (by decide)).k (by omega), ?_⟩⟩
              rw [si_nj _ _ _ (by decide), ← hRD]
              rfl
        · rw [if_pos w.symm] at hRD
          have e26 : (ps μ0 r3.2.1 (-1)).1 kM 26 = nI r3.2.1 := rfl
          rw [e26, pred_nI (by omega)]
          refine ⟨_, S_fault (by omega) μ0, fun μ12 e12 => ?_⟩
          rw [if_pos rfl] at e12
          subst e12
          exact dead55 r3.2.1 _ _ _ _ p2.2 (nz _ (by omega)) (by rw [← hRD]) (by rw [← hRD])
      · cases yb
        subst yc
        rw [if_neg (by rw [ya]; decide)] at hRD
        have hw := nz r3.2.1 p2.2
        exact ⟨fun z => absurd ((ps_fine _ _ _).mp z) hw, fun _ => dead55 b _ _ _ _ hb hw (by rw [← hRD]) (by rw [← hRD])⟩
    refine ⟨_, S_passes (by omega) μ0 h (by omega), fun y6 μ7 r7 => ?_⟩
    rcases r7 with ⟨_, za, zb, zc⟩ | ⟨za, zb, zc⟩
    · cases zb
      subst zc
      have za : cp_hT 76 g k r1.2.1 = 62 := za
      exact ⟨fun _ => rest 1 (Or.inl za) (hT_76 (c := 62) za (by decide)) (by rw [if_pos za]), fun w => absurd w (by decide)⟩
    · cases zb
      subst zc
      have za : ¬ cp_hT 76 g k r1.2.1 = 62 := fun z => za ⟨rfl, z⟩
      refine ⟨fun w => absurd rfl w, fun _ => ⟨_, S_need (by omega) μ0 h (by omega), fun μ13 r13 => ?_⟩⟩
      rcases r13 with ⟨_, ya, yb⟩ | ⟨ya, yb⟩
      · subst yb
        have ya : cp_hT 76 g k r1.2.1 = 45 := ya
        exact rest 0 (Or.inr ya) (hT_76 (c := 45) ya (by decide)) (by rw [if_neg za])
      · rw [if_pos rfl] at yb
        subst yb
        rw [if_neg (by rintro (z | z); exact za z; exact ya ⟨rfl, z⟩)] at hRD
        exact dead25 r1.2.1 _ _ _ p1.2 (nz _ p1.2) (by rw [← hRD]) (by rw [← hRD])
  · cases xb
    subst xc
    rw [if_neg (by rw [xa]; decide)] at hRD
    have hw := nz r1.2.1 p1.2
    refine ⟨_, S_passes (by omega) μ0 h (by omega), fun y6 μ7 r7 => ?_⟩
    rcases r7 with ⟨za, _⟩ | ⟨_, zb, zc⟩
    · exact absurd za hw
    · cases zb
      subst zc
      refine ⟨fun w => absurd rfl w, fun _ => ⟨_, S_need (by omega) μ0 h (by omega), fun μ13 r13 => ?_⟩⟩
      rcases r13 with ⟨ya, _⟩ | ⟨_, yb⟩
      · exact absurd ya hw
      · rw [if_neg hw] at yb
        subst yb
        exact dead25 b _ _ _ hb hw (by rw [← hRD]) (by rw [← hRD])
theorem S_arrive0 {D p1 : Nat} (hp : p1 < 8) (ν : m2M) (s : Int32) (R : Int32 × Int32 × Int32 × Int32) (hr : R.1 ≠ -1) : m2_MT D yX12_arrive cX12_arrive 2 none [.ref kM, .int (nI p1)] (adO0 ν p1 s R) (fun _ ν' => ν' = gA (adO0 ν p1 s R) p1 R.1) := by
  refine S_arrive hp _ R.1 ?_ hr (fun _ => ?_) (Or.inl ?_) (Or.inl ?_)
  · unfold adO0
    rw [si_nc _ _ _ (by decide), si_nc _ _ _ (by decide), si_nc _ _ _ (by decide), si_nc _ _ _ (by decide), si_nc _ _ _ (by decide), si_nc _ _ _ (by decide), si_nc _ _ _ (by decide), si_at]
  · unfold adO0
    rw [si_nc _ _ _ (by decide), si_at]
  · unfold adO0
    rw [si_nc _ _ _ (by decide), si_at]
  · unfold adO0
    rw [si_at]
theorem jO_gA {n1 : Nat} {μ μ' : m2M} {r : Int32} (q : jO n1 μ μ') : jO n1 μ (gA μ' n1 r) := ((q.d (by decide)).d (by decide)).d (by decide)
theorem jO_a0 {n1 : Nat} {μ μ' : m2M} {s : Int32} {R : Int32 × Int32 × Int32 × Int32} (q : jO n1 μ μ') : jO n1 μ (adO0 μ' n1 s R) := (((((((q.d (by decide)).d (by decide)).d (by decide)).d (by decide)).d (by decide)).d (by decide)).d (by decide)).d (by decide)
theorem gA_k {ν : m2M} {q : Nat} {r : Int32} : (gA ν q r).1 kM = ν.1 kM := by
  unfold gA
  rw [si_nc _ _ _ (by decide), si_nc _ _ _ (by decide), si_nc _ _ _ (by decide)]
theorem adO0_k {ν : m2M} {q : Nat} {s : Int32} {R : Int32 × Int32 × Int32 × Int32} : (adO0 ν q s R).1 kM = ν.1 kM := by
  unfold adO0
  rw [si_nc _ _ _ (by decide), si_nc _ _ _ (by decide), si_nc _ _ _ (by decide), si_nc _ _ _ (by decide), si_nc _ _ _ (by decide), si_nc _ _ _ (by decide), si_nc _ _ _ (by decide), si_nc _ _ _ (by decide)]
