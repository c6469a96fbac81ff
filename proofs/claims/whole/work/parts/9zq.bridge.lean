/-! the world that the constructors made is the static world: where each cell was made -/
def m3_off : List Nat := [0, 1, 2, 3, 4, 5, 6, 7, 8, 9, 10, 11, 12, 13, 14, 15, 16, 17, 18, 19, 20, 21, 22, 23, 24, 25, 26, 27, 28, 29, 30, 31, 32, 33, 34, 35, 36, 37, 38, 39, 40, 41, 42, 43, 44, 45, 46, 47, 48, 49, 50, 51, 52, 53, 54, 85, 86, 87, 94, 159, 160, 161, 162, 163, 164, 185, 186, 187, 188, 189, 190, 191, 192, 193, 194, 195, 196, 197, 198, 199, 200, 201, 202, 203, 204, 205, 206, 207, 208, 209, 210, 211, 212, 213, 214, 215, 216, 217, 218, 219, 220, 221, 222, 223, 224, 225, 226, 165, 166, 167, 168, 169, 170, 171, 172, 173, 174, 175, 176, 177, 178, 179, 180, 181, 182, 183, 184, 55, 56, 57, 58, 59, 60, 61, 62, 63, 64, 65, 66, 67, 68, 69, 70, 71, 72, 73, 74, 75, 76, 77, 78, 79, 80, 81, 82, 83, 84, 88, 89, 90, 91, 92, 93, 95, 96, 97, 98, 99, 100, 101, 102, 103, 104, 105, 106, 107, 108, 109, 110, 111, 112, 113, 114, 115, 116, 117, 118, 119, 120, 121, 122, 123, 124, 125, 126, 127, 128, 129, 130, 131, 132, 133, 134, 135, 136, 137, 138, 139, 140, 141, 142, 143, 144, 145, 146, 147, 148, 149, 150, 151, 152, 153, 154, 155, 156, 157, 158, 227]
def m3_back : List Nat := [0, 1, 2, 3, 4, 5, 6, 7, 8, 9, 10, 11, 12, 13, 14, 15, 16, 17, 18, 19, 20, 21, 22, 23, 24, 25, 26, 27, 28, 29, 30, 31, 32, 33, 34, 35, 36, 37, 38, 39, 40, 41, 42, 43, 44, 45, 46, 47, 48, 49, 50, 51, 52, 53, 54, 127, 128, 129, 130, 131, 132, 133, 134, 135, 136, 137, 138, 139, 140, 141, 142, 143, 144, 145, 146, 147, 148, 149, 150, 151, 152, 153, 154, 155, 156, 55, 56, 57, 157, 158, 159, 160, 161, 162, 58, 163, 164, 165, 166, 167, 168, 169, 170, 171, 172, 173, 174, 175, 176, 177, 178, 179, 180, 181, 182, 183, 184, 185, 186, 187, 188, 189, 190, 191, 192, 193, 194, 195, 196, 197, 198, 199, 200, 201, 202, 203, 204, 205, 206, 207, 208, 209, 210, 211, 212, 213, 214, 215, 216, 217, 218, 219, 220, 221, 222, 223, 224, 225, 226, 59, 60, 61, 62, 63, 64, 107, 108, 109, 110, 111, 112, 113, 114, 115, 116, 117, 118, 119, 120, 121, 122, 123, 124, 125, 126, 65, 66, 67, 68, 69, 70, 71, 72, 73, 74, 75, 76, 77, 78, 79, 80, 81, 82, 83, 84, 85, 86, 87, 88, 89, 90, 91, 92, 93, 94, 95, 96, 97, 98, 99, 100, 101, 102, 103, 104, 105, 106, 227]
abbrev offc (c : Nat) : Nat := m3_off.getD c 0
def wF : List m3C := wB_X12 ++ [(4, 1, [])]
def mu0 : m2M := (fun c => if c = kM then (fun j => if j = 17 then 1 else if j = 30 then -1 else if j = 23 then -1 else 0) else if c = kW then (fun j => if j = 6 then 1 else 0) else fun _ => 0, fun _ _ => 0)
def m3_kd (c j k : Nat) : Nat × Int32 := match k with
  | 0 => (0, mu0.1 c j)
  | 1 => (1, 0)
  | k + 2 => (offc k + 2, 0)
def m3_chk (c : Nat) : Bool := match m2_sh c, wF[offc c]? with
  | some (.inl (t, n, rs)), some q => (((decide (q = (t + 1, n, rs.map fun k => (offc k + 2, 0))) && rs.all (fun k => decide (k < 228))) && decide (c ≠ kM)) && decide (c ≠ kW))
  | some (.inr (ci, ks)), some q => ((decide (q = (0, ci, ks.mapIdx (fun j k => m3_kd c j k))) && ks.all (fun k => decide (k < 230))) && (List.range ks.length).all (fun j => decide (ks[j]? = some 1 → mu0.1 c j < 0)))
  | _, _ => false
set_option maxRecDepth 100000 in
theorem m3_chk_all : (List.range 228).all m3_chk = true := by decide +kernel
set_option maxRecDepth 100000 in
theorem m3_back_all : (List.range 228).all (fun c => decide (m3_back.getD (offc c) 0 = c ∧ offc c < 228)) = true := by decide +kernel
theorem offc_lt {c : Nat} (h : c < 228) : offc c < 228 := (of_decide_eq_true (List.all_eq_true.mp m3_back_all c (List.mem_range.mpr h))).2
theorem offc_inj {i j : Nat} (hi : i < 228) (hj : j < 228) (e : offc i = offc j) : i = j := by
  have h1 := (of_decide_eq_true (List.all_eq_true.mp m3_back_all i (List.mem_range.mpr hi))).1
  have h2 := (of_decide_eq_true (List.all_eq_true.mp m3_back_all j (List.mem_range.mpr hj))).1
  rw [← h1, ← h2, e]
theorem mu0_0 {c : Nat} (h1 : c ≠ kM) (h2 : c ≠ kW) : mu0.1 c = fun _ => 0 := by
  show (if c = kM then _ else if c = kW then _ else _) = _
  rw [if_neg h1, if_neg h2]
theorem m3_bridge {dA : Nat → ClassId} {ad ad2 : Nat → Nat} (had : ∀ k, k < 228 → ad2 k = ad (offc k)) {c : Nat} (hc : c < 228) : ∃ q : m3C, wF[offc c]? = some q ∧ m3_e dA ad q = m2_ce dA ad2 mu0 c := by
  have h := List.all_eq_true.mp m3_chk_all c (List.mem_range.mpr hc)
  unfold m3_chk at h
  unfold m2_ce
  cases hs : m2_sh c with
  | none => rw [hs] at h; cases h
  | some x =>
    cases hq : wF[offc c]? with
    | none => rw [hs, hq] at h; cases x <;> cases h
    | some q =>
      rw [hs, hq] at h
      refine ⟨q, rfl, ?_⟩
      cases x with
      | inl y =>
        obtain ⟨t, n, rs⟩ := y
        simp only [Bool.and_eq_true, decide_eq_true_eq] at h
        obtain ⟨⟨⟨h1, h2⟩, h3⟩, h4⟩ := h
        subst h1
        show Sum.inl (dA t, n, m3_a ad t (rs.map fun k => (offc k + 2, 0))) = Sum.inl (dA t, n, m2_ac ad2 mu0 c t rs)
        have e : m3_a ad t (rs.map fun k => (offc k + 2, 0)) = m2_ac ad2 mu0 c t rs := by
          unfold m3_a m2_ac
          by_cases t3 : t = 3
          · rw [if_pos t3, if_pos t3]
            rfl
          · rw [if_neg t3, if_neg t3]
            by_cases t5 : 5 ≤ t
            · rw [if_pos t5, if_pos t5]
              congr 4
              funext j
              rw [List.getElem?_map]
              cases hk : rs[j]? with
              | none => rfl
              | some k =>
                have hlt : k < 228 := of_decide_eq_true (List.all_eq_true.mp h2 k (List.mem_of_getElem? hk))
                show some (ad (offc k)) = some (ad2 k)
                rw [had k hlt]
            · rw [if_neg t5, if_neg t5, mu0_0 h3 h4]
        rw [e]
      | inr y =>
        obtain ⟨ci, ks⟩ := y
        simp only [Bool.and_eq_true, decide_eq_true_eq] at h
        obtain ⟨⟨h1, h2⟩, h3⟩ := h
        subst h1
        show Sum.inr (ci, (ks.mapIdx (fun j k => m3_kd c j k)).map (m3_v ad)) = Sum.inr (ci, m2_fs ad2 (mu0.1 c) ks)
        have e : (ks.mapIdx (fun j k => m3_kd c j k)).map (m3_v ad) = m2_fs ad2 (mu0.1 c) ks := by
          apply List.ext_getElem?
          intro j
          unfold m2_fs
          rw [List.getElem?_map, List.getElem?_mapIdx, List.getElem?_mapIdx]
          cases hk : ks[j]? with
          | none => rfl
          | some k =>
            have hlt : k < 230 := of_decide_eq_true (List.all_eq_true.mp h2 k (List.mem_of_getElem? hk))
            have h1' := of_decide_eq_true (List.all_eq_true.mp h3 j (List.mem_range.mpr (List.getElem?_eq_some_iff.mp hk).1))
            show some (m3_v ad (m3_kd c j k)) = some (m2_fv ad2 (mu0.1 c j) k)
            match k, hk, hlt with
            | 0, _, _ => rfl
            | 1, hk, _ =>
              show some Value.null = some (if mu0.1 c j < 0 then .null else .ref (ad2 (mu0.1 c j).toNatClampNeg))
              rw [if_pos (h1' hk)]
            | k + 2, _, hlt =>
              show some (Value.ref (ad (offc k))) = some (.ref (ad2 k))
              rw [had k (by omega)]
        rw [e]
theorem m3_world {D : va_G} {dA : Nat → ClassId} {ad ad2 : Nat → Nat} {H : Heap} (had : ∀ k, k < 228 → ad2 k = ad (offc k)) (hP : va_P D vwCl (m3_ws dA ad wF) H) : va_P D vwCl (m2_ws dA ad2 mu0) H := by
  intro c x hx
  by_cases hc : c < m2_NC
  · rw [m2_ws_get hc] at hx
    cases hx
    obtain ⟨q, h1, h2⟩ := m3_bridge (dA := dA) had hc
    have h3 := hP (offc c) _ (m3_ws_get h1)
    rw [h2, ← had c hc] at h3
    exact h3
  · rw [m2_ws_none hc] at hx
    cases hx
theorem nI_z {p : Nat} (h : (0 : Int32) = nI p) (hp : p ≤ 8) : p = 0 := by
  match p, hp, h with
  | 0, _, _ => rfl
  | 1, _, h => exact absurd h (by decide)
  | 2, _, h => exact absurd h (by decide)
  | 3, _, h => exact absurd h (by decide)
  | 4, _, h => exact absurd h (by decide)
  | 5, _, h => exact absurd h (by decide)
  | 6, _, h => exact absurd h (by decide)
  | 7, _, h => exact absurd h (by decide)
  | 8, _, h => exact absurd h (by decide)
  | p + 9, hp, _ => exact absurd hp (by omega)
theorem REL_mu0 : REL mu0 := by
  refine ⟨0, 0, ⟨rfl, rfl, by omega, fun d hd => absurd hd (Nat.not_lt_zero d)⟩, ⟨rfl, rfl, by omega, fun d hd => absurd hd (Nat.not_lt_zero d)⟩, ⟨0, by omega, rfl, rfl, fun i _ => ⟨0, by omega, rfl, rfl⟩⟩, ⟨0, by omega, rfl, rfl, fun i hi => absurd hi (Nat.not_lt_zero i)⟩, ⟨0, by omega, rfl, rfl, fun i hi => absurd hi (Nat.not_lt_zero i)⟩, fun i hi => ⟨?_, Or.inl rfl, fun h => absurd h (by show ¬ (0 : Int32) = 1; decide)⟩, ⟨rfl, 0, by omega, rfl⟩, ⟨rfl, 1, by omega, rfl⟩, ⟨0, [], by omega, rfl, Or.inl ⟨rfl, rfl⟩, by decide, rfl, fun i c h => by simp at h, rfl⟩, fun p q h hp hq => ?_, fun i kp q hi h => absurd h (by show ¬ (0 : Int32) = 1; decide)⟩
  · rw [mu0_0 (c := kK i) (by show 107 + 5 * i ≠ 65; omega) (by show 107 + 5 * i ≠ 46; omega)]
    rfl
  · have := nI_z (show (0 : Int32) = nI p from h) hp
    omega
