/-! keep: what to be hoped for -/
theorem dJ7_fill_d0a16_0 : decode cJ7_fill_d0a16 0 = .ok (.iconst 0, 1) := by decide +kernel
theorem dJ7_fill_d0a16_1 : decode cJ7_fill_d0a16 1 = .ok (.istore_n 3, 1) := by decide +kernel
theorem dJ7_fill_d0a16_2 : decode cJ7_fill_d0a16 2 = .ok (.aload_n 0, 1) := by decide +kernel
theorem dJ7_fill_d0a16_3 : decode cJ7_fill_d0a16 3 = .ok (.arraylength, 1) := by decide +kernel
theorem dJ7_fill_d0a16_4 : decode cJ7_fill_d0a16 4 = .ok (.istore 4, 2) := by decide +kernel
theorem dJ7_fill_d0a16_6 : decode cJ7_fill_d0a16 6 = .ok (.iload_n 3, 1) := by decide +kernel
theorem dJ7_fill_d0a16_7 : decode cJ7_fill_d0a16 7 = .ok (.iload 4, 2) := by decide +kernel
theorem dJ7_fill_d0a16_9 : decode cJ7_fill_d0a16 9 = .ok (.if_icmp .ge 13, 3) := by decide +kernel
theorem dJ7_fill_d0a16_12 : decode cJ7_fill_d0a16 12 = .ok (.aload_n 0, 1) := by decide +kernel
theorem dJ7_fill_d0a16_13 : decode cJ7_fill_d0a16 13 = .ok (.iload_n 3, 1) := by decide +kernel
theorem dJ7_fill_d0a16_14 : decode cJ7_fill_d0a16 14 = .ok (.lload_n 1, 1) := by decide +kernel
theorem dJ7_fill_d0a16_15 : decode cJ7_fill_d0a16 15 = .ok (.lastore, 1) := by decide +kernel
theorem dJ7_fill_d0a16_16 : decode cJ7_fill_d0a16 16 = .ok (.iinc 3 1, 3) := by decide +kernel
theorem dJ7_fill_d0a16_19 : decode cJ7_fill_d0a16 19 = .ok (.goto (-13), 3) := by decide +kernel
theorem dJ7_fill_d0a16_22 : decode cJ7_fill_d0a16 22 = .ok (.return_, 1) := by decide +kernel
theorem m2_sl_eq {μ : m2M} {c : Nat} {f g : Nat → Int64} (h : ∀ j, f j = g j) : m2_sl μ c f = m2_sl μ c g := by rw [show f = g from funext h]
theorem S_filll {D c0 n : Nat} {rs : List Nat} (hs : m2_sh c0 = some (.inl (3, n, rs))) (hn : n < 2 ^ 31) (v : Int64) (μ : m2M) : m2_MT D yJ7_fill_d0a16 cJ7_fill_d0a16 5 none [.ref c0, .long v] μ (fun _ μ' => μ' = m2_sl μ c0 (fun j => if j < n then v else μ.2 c0 j)) := by
  refine m2_MT.intro (ls := [.ref c0, .long v, .null, .null, .null]) (by decide +kernel) rfl (Nat.le_of_ble_eq_true rfl) (fun κ h => ?_)
  have hB := h.b
  have loop : ∀ (k i : Nat), i + k = n → κ 6 [.ref c0, .long v, .null, .int (nI i), .int (nI n)] [] (m2_sl μ c0 (fun j => if j < i then v else μ.2 c0 j)) := by
    intro k
    induction k with
    | zero =>
      intro i hi
      have hi : i = n := by omega
      subst hi
      refine m2_iload_n hB dJ7_fill_d0a16_6 rfl ?_
      refine m2_iload hB dJ7_fill_d0a16_7 rfl ?_
      refine m2_icmp_ge hB dJ7_fill_d0a16_9 (tgt := 22) (by decide) (fun _ => ?_) (fun q => absurd (nI_le (Nat.le_refl i) hn) q)
      exact m2_vret h dJ7_fill_d0a16_22 rfl
    | succ k ih =>
      intro i hi
      have hlt : i < n := by omega
      refine m2_iload_n hB dJ7_fill_d0a16_6 rfl ?_
      refine m2_iload hB dJ7_fill_d0a16_7 rfl ?_
      refine m2_icmp_ge hB dJ7_fill_d0a16_9 (tgt := 22) (by decide) (fun q => absurd q (nI_ge hlt hn)) (fun _ => ?_)
      refine m2_aload_n hB dJ7_fill_d0a16_12 rfl ?_
      refine m2_iload_n hB dJ7_fill_d0a16_13 rfl ?_
      refine m2_lload_n hB dJ7_fill_d0a16_14 rfl ?_
      refine m2_last hB dJ7_fill_d0a16_15 hs (vp_in_nI hlt hn) ?_
      refine m2_iinc hB (ls' := [.ref c0, .long v, .null, .int (nI (i + 1)), .int (nI n)]) (v := nI (i + 1)) dJ7_fill_d0a16_16 rfl (by decide) (nI_1 i) rfl ?_
      refine m2_goto hB dJ7_fill_d0a16_19 (tgt := 6) (by decide) ?_
      have e := ih (i + 1) (by omega)
      rw [nI_clamp (by omega), m2_sl_sl, m2_sl_same, m2_sl_eq (g := fun j => if j < i + 1 then v else μ.2 c0 j)]
      · exact e
      · intro j
        unfold vp_updL
        by_cases hj : j = i
        · subst hj; simp
        · by_cases h2 : j < i
          · simp [hj, h2, Nat.lt_succ_of_lt h2]
          · simp [hj, h2, show ¬ j < i + 1 by omega]
  refine m2_iconst hB dJ7_fill_d0a16_0 (v := 0) (by decide) ?_
  refine m2_istore_n hB (ls' := [.ref c0, .long v, .null, .int 0, .null]) dJ7_fill_d0a16_1 rfl (by decide) rfl ?_
  refine m2_aload_n hB dJ7_fill_d0a16_2 rfl ?_
  refine m2_alenL hB dJ7_fill_d0a16_3 hs ?_
  refine m2_istore hB (ls' := [.ref c0, .long v, .null, .int 0, .int (Int32.ofNat n)]) dJ7_fill_d0a16_4 (by decide) rfl ?_
  have e := loop n 0 (by omega)
  rw [show m2_sl μ c0 (fun j => if j < 0 then v else μ.2 c0 j) = μ from ?_] at e
  · rw [nI_0] at e
    exact e
  · rw [show (fun j => if j < 0 then v else μ.2 c0 j) = μ.2 c0 from funext fun j => by simp]
    exact m2_sl_id μ c0
theorem i64_tri (x y : Int64) : x < y ∨ x = y ∨ y < x := by
  rcases (show x.toInt < y.toInt ∨ x.toInt = y.toInt ∨ y.toInt < x.toInt by omega) with w | w | w
  · exact Or.inl (Int64.lt_iff_toInt_lt.mpr w)
  · exact Or.inr (Or.inl (Int64.toInt_inj.mp w))
  · exact Or.inr (Or.inr (Int64.lt_iff_toInt_lt.mpr w))
theorem i64_asy {x y : Int64} (h1 : x < y) (h2 : y < x) : False := by
  rw [Int64.lt_iff_toInt_lt] at h1 h2
  omega
theorem maxl_comm (x y : Int64) : m2_maxl x y = m2_maxl y x := by
  unfold m2_maxl
  rcases i64_tri x y with h | h | h
  · rw [if_neg (fun z => i64_asy h z), if_pos h]
  · rw [h]
  · rw [if_pos h, if_neg (fun z => i64_asy h z)]
theorem cmp_le (x y : Int64) : lg_cmp y x ≤ 0 ↔ 0 ≤ lg_cmp x y := by
  unfold lg_cmp
  rcases i64_tri x y with h | h | h
  · rw [if_pos (show y > x from h), if_neg (show ¬ x > y from fun z => i64_asy h z), if_neg (fun z => by rw [z] at h; exact i64_asy h h)]
    decide
  · rw [h, if_neg (show ¬ y > y from fun z => i64_asy z z), if_pos rfl]
  · rw [if_neg (show ¬ y > x from fun z => i64_asy h z), if_pos (show x > y from h), if_neg (fun z => by rw [z] at h; exact i64_asy h h)]
    decide
def kT10 : Nat → Int64
  | 0 => 1
  | h + 1 => kT10 h * 10
def kSt (c a e b : Int32) (T w v : Int64) : Int64 := ((((10 : Int32) - c) - e).toInt64 * w + c.toInt64 * m2_maxl w (a.toInt64 * T + v)) + e.toInt64 * m2_maxl w (b.toInt64 * T + v)
def kHp (c a e b : Int32) : Nat → Nat → Int64
  | 0, _ => 0
  | h + 1, l => if l = 0 then 0 else kSt c a e b (kT10 h) (kHp c a e b h l) (kHp c a e b h (l - 1))
def kNt (c a e b : Int32) (L : Nat) : Nat → Int32
  | 0 => 0
  | h + 1 => kNt c a e b L h + (if L = 0 then 1 else if 0 ≤ lg_cmp (a.toInt64 * kT10 h + kHp c a e b h (L - 1)) (kHp c a e b h L) then 0 else 1)
theorem kNt_s (c a e b : Int32) (L h : Nat) : kNt c a e b L (h + 1) = kNt c a e b L h + (if L = 0 then 1 else if 0 ≤ lg_cmp (a.toInt64 * kT10 h + kHp c a e b h (L - 1)) (kHp c a e b h L) then 0 else 1) := rfl
theorem kSt_C (c a e b : Int32) (T w v : Int64) : (c.toInt64 * m2_maxl (a.toInt64 * T + v) w + e.toInt64 * m2_maxl (b.toInt64 * T + v) w) + (((10 : Int32) - c) - e).toInt64 * w = kSt c a e b T w v := by
  unfold kSt
  rw [maxl_comm _ w, maxl_comm _ w, Int64.add_comm, Int64.add_assoc]
theorem pred_nI {j : Nat} (h : 0 < j) : nI j - 1 = nI (j - 1) := by
  obtain ⟨k, rfl⟩ : ∃ k, j = k + 1 := ⟨j - 1, by omega⟩
  rw [nI_pred]
  rfl
set_option maxHeartbeats 4000000 in
theorem T_keep {D : Nat} (hD : 3 ≤ D) (x1 x2 x3 x4 x5 x6 : Int32) (μ : m2M) (h : REL μ) : stp D yX11_keep cX11_keep 20 (some .int) yX12_keep cX12_keep 18 (some .int) [.int x1, .int x2, .int x3, .int x4, .int x5, .int x6] μ REL := by
  obtain ⟨D, rfl⟩ : ∃ E, D = E + 1 := ⟨D - 1, by omega⟩
  obtain ⟨n, p, hR⟩ := id h
  have hR : RLn μ μ n p := hR
  have hn := hR.n20
  by_cases ok : in_ n x1 ∧ in_ 11 x2 ∧ (¬ x3 < 0 ∧ ¬ 10 < x3) ∧ (¬ x4 < 0 ∧ ¬ 99 < x4) ∧ (¬ x5 < 0 ∧ ¬ (10 : Int32) - x3 < x5) ∧ (¬ x6 < x4 ∧ ¬ 99 < x6)
  · obtain ⟨⟨d, hd, rfl⟩, ⟨N, hN, rfl⟩, o3, o4, o5, o6⟩ := ok
    have hl := hR.hl d hd
    generalize hL0 : hL μ d = L at hl
    refine T_of (some (.int 0)) (tlM μ [kHp x3 x4 x5 x6 N L, (kNt x3 x4 x5 x6 L N).toInt64]) ?_ (fun ν hv => ?_)
    · refine m2_MT.intro (ls := [.ref kC, .int (nI d), .int (nI N), .int x3, .int x4, .int x5, .int x6, .null, .null, .null, .null, .null, .null, .null, .null, .null, .null, .null, .null, .null]) (by decide +kernel) rfl (ble rfl) (fun κ hk => ?_)
      have o2a : ¬ nI N < 0 := nI_pos (by omega)
      have o2b : ¬ (10 : Int32) < nI N := nI_nlt (a := 10) (by omega) (by decide)
      refine B_X11_keep_0 hk (Nat.zero_le _) ⟨fun _ => ⟨fun w => absurd w o2a, fun _ => ⟨fun w => absurd w o2b, fun _ => ⟨fun w => absurd w o3.1, fun _ => ⟨fun w => absurd w o3.2, fun _ => ⟨fun w => absurd w o5.1, fun _ => ⟨fun _ => ⟨fun w => absurd w o4.1, fun _ => ⟨fun w => absurd w o4.2, fun _ => ⟨fun w => absurd w o6.1, fun _ => ⟨fun _ => ⟨vp_in_nI (by omega) (by decide), _, S_filll sh_kC_hopes (by decide) 0 μ, fun μ20 e20 => ?_⟩, fun w => absurd (Int32.not_lt.mp o6.2) w⟩⟩⟩⟩, fun w => absurd (Int32.not_lt.mp o5.2) w⟩⟩⟩⟩⟩⟩, fun w => absurd ((fX0_has_iff hR.1.1 hn).mpr ⟨d, hd, rfl⟩) w⟩
      subst e20
      have ed : μ.1 kD_left (nI d).toNatClampNeg = nI L := by rw [nI_clamp (by omega), (hR.cl d hd).1, hL0]
      rw [ed]
      have outer := dn (n := N) (G := fun g => ∀ f : Nat → Int64, (∀ i, i ≤ L → f i = kHp x3 x4 x5 x6 g i) → κ 115 [.ref kC, .int (nI d), .int (nI N), .int x3, .int x4, .int x5, .int x6, .int 1, .int (nI L), .long (kT10 g), .null, .int (kNt x3 x4 x5 x6 L g), .int (nI g), .null, .null, .null, .null, .null, .null, .null] [] (m2_sl μ kC_hopes f)) ?_ (fun g hg ih => ?_)
      · exact outer _ (fun i hi => if_pos (by omega))
      · intro f hf
        refine B_X11_keep_115 hk (pk_le N N (fun _ => ⟨vp_in_nI (by omega) (by decide), ?_⟩) (fun w => absurd w (by omega)))
        rw [nI_clamp (by omega), m2_sl_same, hf L (Nat.le_refl L)]
        refine ⟨_, S_tellC _ _ rC.i (by decide), fun μ5 r5 => ⟨_, S_tellC _ _ r5.1 (ble rfl), fun μ10 r10 => ⟨rfl, ?_, ?_⟩⟩⟩
        · exact REL2.tell (hR.c (ag_sl (by decide) (by decide)).c).r r10.1 ((twC.i.tr r5.2).tr r10.2) (ble rfl)
        · exact r10.2.fr rfl rfl (r5.2.fr rfl rfl (twC.i.fr rfl rfl (fr_sl rfl fr.rf)))
      · intro f hf
        have inner : ∀ nt : Int32, nt = kNt x3 x4 x5 x6 L (g + 1) → ∀ (j : Nat) (f : Nat → Int64), j ≤ L → (∀ i, i ≤ j → f i = kHp x3 x4 x5 x6 g i) → (∀ i, j < i → i ≤ L → f i = kHp x3 x4 x5 x6 (g + 1) i) → κ 160 [.ref kC, .int (nI d), .int (nI N), .int x3, .int x4, .int x5, .int x6, .int 1, .int (nI L), .long (kT10 g), .null, .int nt, .int (nI g), .int (nI j), .null, .null, .null, .null, .null, .null] [] (m2_sl μ kC_hopes f) := by
          intro nt hnt j
          induction j with
          | zero =>
            intro f _ hf0 hf1
            refine B_X11_keep_160 hk (Nat.zero_le _) ⟨fun _ => ?_, fun w => absurd (by decide) w⟩
            rw [nI_1, hnt]
            refine ih f (fun i hi => ?_)
            by_cases e : i = 0
            · subst e
              rw [hf0 0 (Nat.le_refl 0)]
              cases g <;> simp [kHp]
            · exact hf1 i (by omega) hi
          | succ j ihj =>
            intro f hj hf0 hf1
            refine B_X11_keep_160 hk (Nat.zero_le _) ⟨fun w => absurd w (nI_nle (by omega) (by omega)), fun _ => ⟨vp_in_nI (by omega) (by decide), ?_, ?_⟩⟩
            · rw [nI_pred]; exact vp_in_nI (by omega) (by decide)
            · rw [nI_pred, pk_m1, nI_clamp (by omega), nI_clamp (by omega), m2_sl_same, m2_sl_sl, hf0 (j + 1) (Nat.le_refl _), hf0 j (by omega), kSt_C]
              refine ihj _ (by omega) (fun i hi => ?_) (fun i hi1 hi2 => ?_)
              · unfold vp_updL
                rw [if_neg (by omega)]
                exact hf0 i (by omega)
              · unfold vp_updL
                by_cases e : i = j + 1
                · rw [if_pos e, e]
                  rfl
                · rw [if_neg e]
                  exact hf1 i (by omega) hi2
        refine B_X11_keep_115 hk (pk_le N g (fun w => absurd w (by omega)) (fun _ => ⟨fun w => ?_, fun w => ?_⟩))
        · have w0 : L = 0 := (nI_eq (b := 0) (by omega) (by decide)).mp w
          refine inner _ ?_ L f (Nat.le_refl L) hf (fun i h1 h2 => absurd h1 (by omega))
          rw [kNt_s, if_pos w0]
        · have w0 : L ≠ 0 := fun z => w (by rw [z]; rfl)
          rw [pred_nI (by omega), nI_clamp (by omega), nI_clamp (by omega), m2_sl_same, hf L (Nat.le_refl L), hf (L - 1) (by omega)]
          refine ⟨vp_in_nI (by omega) (by decide), vp_in_nI (by omega) (by decide), ?_⟩
          refine inner _ ?_ L f (Nat.le_refl L) hf (fun i h1 h2 => absurd h1 (by omega))
          rw [kNt_s, if_neg w0]
          by_cases z : 0 ≤ lg_cmp (x4.toInt64 * kT10 g + kHp x3 x4 x5 x6 g (L - 1)) (kHp x3 x4 x5 x6 g L)
          · rw [if_pos z, if_pos z, Int32.add_zero]
          · rw [if_neg z, if_neg z]
    · have hv' := hv.thr
      have g0 : ν.1 kM 0 = nI n := (hv.1 kM 0 rfl rfl).trans hR.1.2.1
      refine m2_MT.intro (ls := [.ref kM, .int (nI d), .int (nI N), .int x3, .int x4, .int x5, .int x6, .null, .null, .null, .null, .null, .null, .null, .null, .null, .null, .null]) (by decide +kernel) rfl (ble rfl) (fun κ hk => ?_)
      refine B_X12_keep_0 hk (by omega) ⟨fun _ => ⟨fun _ => ⟨fun _ => ⟨fun _ => ⟨fun _ => ⟨fun _ => ?_, fun w => absurd (fX12_in_iff.mpr o6) w⟩, fun w => absurd (fX12_in_iff.mpr o5) w⟩, fun w => absurd (fX12_in_iff.mpr o4) w⟩, fun w => absurd (fX12_in_iff.mpr o3) w⟩, fun w => absurd ((in_k (k := 10) (by decide)).mpr ⟨N, hN, rfl⟩) w⟩, fun w => absurd ((fX12_isDoor_iff (μ := m2_si ν kM 22 0) g0 hn).mpr ⟨d, hd, rfl⟩) w⟩
      have el : ∀ f, (m2_sl (m2_si ν kM 22 0) kM_hope f).1 kM_left d = nI L := fun f => (hv.1 kM_left d rfl rfl).trans (hl.1)
      have zer := dn (n := 61) (G := fun l => ∀ f : Nat → Int64, (∀ i, i < l → f i = 0) → κ 80 [.ref kM, .int (nI d), .int (nI N), .int x3, .int x4, .int x5, .int x6, .long 1, .null, .int 0, .int (nI l), .null, .null, .null, .null, .null, .null, .null] [] (m2_sl (m2_si ν kM 22 0) kM_hope f)) ?_ (fun l hl' ih => ?_)
      · have := zer ((m2_si ν kM 22 0).2 kM_hope) (fun i hi => absurd hi (Nat.not_lt_zero i))
        rw [m2_sl_id] at this
        exact this
      · intro f hf
        refine B_X12_keep_80 hk ⟨fun _ => ?_, fun w => absurd (by decide) w⟩
        have outer := dn (n := N) (G := fun g => ∀ f : Nat → Int64, (∀ i, i ≤ 60 → f (61 * g + i) = kHp x3 x4 x5 x6 g i) → κ 104 [.ref kM, .int (nI d), .int (nI N), .int x3, .int x4, .int x5, .int x6, .long (kT10 g), .null, .int (kNt x3 x4 x5 x6 L g), .int (nI (g + 1)), .null, .null, .null, .null, .null, .null, .null] [] (m2_sl (m2_si ν kM 22 0) kM_hope f)) ?_ (fun g hg ih => ?_)
        · exact outer f (fun i hi => by rw [Nat.mul_zero, Nat.zero_add, hf i (by omega)]; rfl)
        · intro f hf
          refine B_X12_keep_104 hk (pk_lt N (N + 1) (fun _ => ⟨vp_in_nI (by omega) (by decide), ?_⟩) (fun w => absurd w (by omega)))
          have ea : ((61 : Int32) * nI N) + nI L = nI (61 * N + L) := by rw [show (61 : Int32) = nI 61 from rfl, pk_mul, nI_add]
          rw [nI_clamp (by omega), el, ea, nI_clamp (by omega), m2_sl_same, hf L (by omega)]
          refine ⟨vp_in_nI (by omega) (by decide), _, S_tellM _ _ rM.i (by decide), fun μ5 r5 => ⟨_, S_tellM _ _ r5.1 (ble rfl), fun μ10 r10 => ⟨rfl, ?_, ?_⟩⟩⟩
          · exact (hv'.tr (ag_sl (by decide) (by decide)).m).tell r10.1 ((twM.i.tr r5.2).tr r10.2) (ble rfl)
          · exact r10.2.fr rfl rfl (r5.2.fr rfl rfl (twM.i.fr rfl rfl (fr_sl rfl (fr_si rfl fr.rf))))
        · intro f hf
          refine B_X12_keep_104 hk (pk_lt N (g + 1) (fun w => absurd w (by omega)) (fun _ => ?_))
          let nt : Nat → Int32 := fun l => if L < l then kNt x3 x4 x5 x6 L (g + 1) else kNt x3 x4 x5 x6 L g
          have inner := dn (n := 61) (G := fun l => ∀ f : Nat → Int64, (∀ i, i ≤ 60 → f (61 * g + i) = kHp x3 x4 x5 x6 g i) → (∀ i, i < l → f (61 * (g + 1) + i) = kHp x3 x4 x5 x6 (g + 1) i) → κ 113 [.ref kM, .int (nI d), .int (nI N), .int x3, .int x4, .int x5, .int x6, .long (kT10 g), .null, .int (nt l), .int (nI (g + 1)), .int (nI l), .null, .null, .null, .null, .null, .null] [] (m2_sl (m2_si ν kM 22 0) kM_hope f)) ?_ (fun l hl' ih2 => ?_)
          · have := inner f hf (fun i hi => absurd hi (Nat.not_lt_zero i))
            rw [show nt 0 = kNt x3 x4 x5 x6 L g from if_neg (by omega)] at this
            exact this
          · intro f hf hf2
            refine B_X12_keep_113 hk (Nat.zero_le _) ⟨fun _ => ?_, fun w => absurd (by decide) w⟩
            rw [nI_1, show nt 61 = kNt x3 x4 x5 x6 L (g + 1) from if_pos (by omega)]
            exact ih f (fun i hi => hf2 i (by omega))
          · intro f hf hf2
            have ea : (61 : Int32) * (nI (g + 1) - 1) + nI l = nI (61 * g + l) := by rw [nI_pred, show (61 : Int32) = nI 61 from rfl, pk_mul, nI_add]
            have eb : (61 : Int32) * nI (g + 1) + nI l = nI (61 * (g + 1) + l) := by rw [show (61 : Int32) = nI 61 from rfl, pk_mul, nI_add]
            have va : vp_in ((61 : Int32) * (nI (g + 1) - 1) + nI l) 671 := by rw [ea]; exact vp_in_nI (by omega) (by decide)
            have vb : vp_in ((61 : Int32) * nI (g + 1) + nI l) 671 := by rw [eb]; exact vp_in_nI (by omega) (by decide)
            have vd : vp_in (nI d) 20 := vp_in_nI (by omega) (by decide)
            have put : ∀ v : Int64, v = kHp x3 x4 x5 x6 (g + 1) l → κ 113 [.ref kM, .int (nI d), .int (nI N), .int x3, .int x4, .int x5, .int x6, .long (kT10 g), .null, .int (nt (l + 1)), .int (nI (g + 1)), .int (nI (l + 1)), .null, .null, .null, .null, .null, .null] [] (m2_sl (m2_si ν kM 22 0) kM_hope (vp_updL f (61 * (g + 1) + l) v)) := by
              intro v ev
              refine ih2 _ (fun i hi => ?_) (fun i hi => ?_)
              · unfold vp_updL
                rw [if_neg (by omega)]
                exact hf i hi
              · unfold vp_updL
                by_cases e : i = l
                · rw [e, if_pos rfl, ev]
                · rw [if_neg (by omega)]
                  exact hf2 i (by omega)
            by_cases hl0 : l = 0
            · subst hl0
              have e0 : nI 0 = 0 := rfl
              have ent : (if nI 0 = nI L then (nt 0 + (if nI 0 = 0 then 1 else (if (lg_cmp (f (61 * g + 0)) 0) ≤ 0 then 0 else 1 : Int32) : Int32)) else nt 0 : Int32) = nt (0 + 1) := by
                by_cases z : L = 0
                · rw [z, if_pos rfl, if_pos (show nI 0 = 0 from rfl), show nt 0 = kNt x3 x4 x5 x6 L g from if_neg (by omega), show nt (0 + 1) = kNt x3 x4 x5 x6 L (g + 1) from if_pos (by omega)]
                  show _ = kNt x3 x4 x5 x6 L g + _
                  rw [if_pos z]
                · rw [if_neg (fun w => z ((nI_eq (by omega) (by omega)).mp w).symm), show nt 0 = kNt x3 x4 x5 x6 L g from if_neg (by omega), show nt (0 + 1) = kNt x3 x4 x5 x6 L g from if_neg (by omega)]
              refine B_X12_keep_113 hk (Nat.zero_le _) ⟨fun w => absurd w (by decide), fun _ => ⟨va, fun w => absurd e0 w, fun _ => ⟨fun w => absurd e0 w, fun _ => ⟨fun w => absurd e0 w, fun _ => ⟨vb, vd, ?_⟩⟩⟩⟩⟩
              rw [nI_clamp (n := d) (by omega), el, ea, eb, nI_clamp (by omega), nI_clamp (by omega), m2_sl_same, m2_sl_sl, nI_1, ent]
              exact put 0 rfl
            · have e0 : ¬ nI l = 0 := nI_ne0 (by omega) (by omega)
              have ec : (61 : Int32) * (nI (g + 1) - 1) + nI l - 1 = nI (61 * g + (l - 1)) := by rw [ea, pred_nI (by omega)]; exact congrArg nI (by omega)
              have vc : vp_in ((61 : Int32) * (nI (g + 1) - 1) + nI l - 1) 671 := by rw [ec]; exact vp_in_nI (by omega) (by decide)
              refine B_X12_keep_113 hk (Nat.zero_le _) ⟨fun w => absurd w (nI_nlt (a := 60) (b := l) (by omega) (by decide)), fun _ => ⟨va, fun _ => ⟨vc, fun _ => ⟨fun _ => ⟨vb, vd, ?_⟩, fun w => absurd w e0⟩, fun w => absurd w e0⟩, fun w => absurd w e0⟩⟩
              rw [nI_clamp (n := d) (by omega), el, ec, ea, eb, nI_clamp (by omega), nI_clamp (by omega), nI_clamp (by omega), m2_sl_same, m2_sl_sl, nI_1, hf l (by omega), hf (l - 1) (by omega)]
              have ent : (if nI l = nI L then (nt l + (if nI l = 0 then 1 else (if (lg_cmp (kHp x3 x4 x5 x6 g l) (x4.toInt64 * kT10 g + kHp x3 x4 x5 x6 g (l - 1))) ≤ 0 then 0 else 1 : Int32) : Int32)) else nt l : Int32) = nt (l + 1) := by
                by_cases z : l = L
                · rw [if_pos (by rw [z]), if_neg e0]
                  rw [show nt l = kNt x3 x4 x5 x6 L g from if_neg (by omega), show nt (l + 1) = kNt x3 x4 x5 x6 L (g + 1) from if_pos (by omega)]
                  rw [kNt_s, if_neg (show ¬ L = 0 by omega)]
                  have zz : L = l := z.symm
                  rw [show kHp x3 x4 x5 x6 g (L - 1) = kHp x3 x4 x5 x6 g (l - 1) by rw [zz], show kHp x3 x4 x5 x6 g L = kHp x3 x4 x5 x6 g l by rw [zz]]
                  by_cases y : 0 ≤ lg_cmp (x4.toInt64 * kT10 g + kHp x3 x4 x5 x6 g (l - 1)) (kHp x3 x4 x5 x6 g l)
                  · rw [if_pos y, if_pos ((cmp_le _ _).mpr y)]
                  · rw [if_neg y, if_neg (fun w => y ((cmp_le _ _).mp w))]
                · rw [if_neg (fun w => z ((nI_eq (by omega) (by omega)).mp w))]
                  by_cases y : L < l
                  · rw [show nt l = kNt x3 x4 x5 x6 L (g + 1) from if_pos y, show nt (l + 1) = kNt x3 x4 x5 x6 L (g + 1) from if_pos (by omega)]
                  · rw [show nt l = kNt x3 x4 x5 x6 L g from if_neg y, show nt (l + 1) = kNt x3 x4 x5 x6 L g from if_neg (by omega)]
              rw [ent]
              refine put _ ?_
              show _ = if l = 0 then _ else _
              rw [if_neg hl0]
              rfl
      · intro f hf
        refine B_X12_keep_80 hk ⟨fun w => absurd w (nI_nlt (a := 60) (b := l) (by omega) (by decide)), fun _ => ⟨vp_in_nI (by omega) (by decide), ?_⟩⟩
        rw [nI_clamp (by omega), m2_sl_same, m2_sl_sl, nI_1]
        refine ih _ (fun i hi => ?_)
        unfold vp_updL
        by_cases e : i = l
        · rw [if_pos e]
        · rw [if_neg e]; exact hf i (by omega)
  · refine T_of (some (.int (-1))) μ ?_ (fun ν hv => ?_)
    · refine m2_MT.intro (ls := [.ref kC, .int x1, .int x2, .int x3, .int x4, .int x5, .int x6, .null, .null, .null, .null, .null, .null, .null, .null, .null, .null, .null, .null, .null]) (by decide +kernel) rfl (ble rfl) (fun κ hk => ?_)
      have fin : (some (Value.int (-1)) = some (Value.int (-1)) ∧ REL2 μ μ ∧ frC μ μ) := ⟨rfl, h, fr.rf⟩
      refine B_X11_keep_0 hk (Nat.zero_le _) ⟨fun w1 => ⟨fun _ => fin, fun w2 => ⟨fun _ => fin, fun w3 => ⟨fun _ => fin, fun w4 => ⟨fun _ => fin, fun w5 => ⟨fun _ => fin, fun w6 => ⟨fun w7 => ⟨fun _ => fin, fun w8 => ⟨fun _ => fin, fun w9 => ⟨fun _ => fin, fun w10 => ⟨fun w11 => absurd ?_ ok, fun _ => fin⟩⟩⟩⟩, fun _ => fin⟩⟩⟩⟩⟩⟩, fun _ => fin⟩
      exact ⟨(fX0_has_iff hR.1.1 hn).mp w1, i32_in (k := 11) (by decide) w2 ((i32_lt_succ (k := 10) (by decide)).mpr w3), ⟨w4, w5⟩, ⟨w8, w9⟩, ⟨w6, Int32.not_lt.mpr w7⟩, ⟨w10, Int32.not_lt.mpr w11⟩⟩
    · have fin : (some (Value.int (-1)) = some (Value.int (-1)) ∧ vM μ (m2_si ν kM 22 0) ∧ frM ν (m2_si ν kM 22 0)) := ⟨rfl, hv.thr, fr_si rfl fr.rf⟩
      have g0 : ν.1 kM 0 = nI n := (hv.1 kM 0 rfl rfl).trans hR.1.2.1
      refine m2_MT.intro (ls := [.ref kM, .int x1, .int x2, .int x3, .int x4, .int x5, .int x6, .null, .null, .null, .null, .null, .null, .null, .null, .null, .null, .null]) (by decide +kernel) rfl (ble rfl) (fun κ hk => ?_)
      refine B_X12_keep_0 hk (by omega) ⟨fun w1 => ⟨fun w2 => ⟨fun w3 => ⟨fun w4 => ⟨fun w5 => ⟨fun w6 => absurd ?_ ok, fun _ => fin⟩, fun _ => fin⟩, fun _ => fin⟩, fun _ => fin⟩, fun _ => fin⟩, fun _ => fin⟩
      exact ⟨(fX12_isDoor_iff (μ := m2_si ν kM 22 0) g0 hn).mp w1, (in_k (k := 10) (by decide)).mp w2, fX12_in_iff.mp w3, fX12_in_iff.mp w4, fX12_in_iff.mp w5, fX12_in_iff.mp w6⟩
