/-! way, sure, safe -/
theorem wyU_ok {ν μ : m2M} {n p frm goal : Nat} {U : Nat → Bool} {l : List Nat} (h : RLn ν μ n p) (hfrm : frm < 12) (hgoal : goal < 12) (q : wyU ν n U frm goal = some l) : wk (hA ν) (hB ν) (hT ν) (fun d => if U d = true then 1 else 0) n frm l goal ∧ l.Nodup ∧ l.length ≤ 11 ∧ ∀ i d : Nat, l[i]? = some d → d < n ∧ U d = true := by
  obtain ⟨h1, h2, h3⟩ := wy_ok h.N h.AB hgoal hfrm q
  refine ⟨h1, h2, h3, fun i d e => ?_⟩
  have := wk_mem h1 d (List.mem_of_getElem? e)
  refine ⟨this.1, ?_⟩
  by_cases z : U d = true
  · exact z
  · have h4 := this.2
    simp only [if_neg z] at h4
    exact absurd rfl h4
theorem bf_ps_congr {A B : Nat → Nat} {T : Nat → Bool} {C C' : Nat → Nat} : ∀ {n : Nat} {x : Nat → Nat}, (∀ d, d < n → C d = C' d) → bf_ps A B T C n x = bf_ps A B T C' n x := by
  intro n
  induction n with
  | zero => intro x _; rfl
  | succ n ih =>
    intro x h
    unfold bf_ps
    rw [ih (fun d hd => h d (by omega)), h n (by omega)]
theorem wy_congr {A B : Nat → Nat} {T : Nat → Bool} {C C' : Nat → Nat} {n far frm goal : Nat} (h : ∀ d, d < n → C d = C' d) : wy A B T C n far frm goal = wy A B T C' n far frm goal := by
  have e : wy_f A B T C n far goal = wy_f A B T C' n far goal := by
    unfold wy_f
    have : ∀ k x, bf_it A B T C n k x = bf_it A B T C' n k x := by
      intro k
      induction k with
      | zero => intro x; rfl
      | succ k ih => intro x; unfold bf_it; rw [ih, bf_ps_congr h]
    exact this 12 _
  unfold wy
  rw [e]
  have : (fun u => bf_nx (fun d => bf_tb A B T C (wy_f A B T C' n far goal) d u) n) = (fun u => bf_nx (fun d => bf_tb A B T C' (wy_f A B T C' n far goal) d u) n) := by
    funext u
    refine bf_nx_congr (fun d hd => ?_)
    unfold bf_tb
    rw [h d hd]
  rw [this]
theorem wyU_congr {ν : m2M} {n frm goal : Nat} {U V : Nat → Bool} (h : ∀ d, d < n → U d = V d) : wyU ν n U frm goal = wyU ν n V frm goal := wy_congr (fun d hd => by rw [h d hd])
theorem wyU_none {ν μ : m2M} {n p frm goal : Nat} {U : Nat → Bool} (h : RLn ν μ n p) (hfrm : frm < 12) (hgoal : goal < 12) (hne : frm ≠ goal) (hU : ∀ d, d < n → U d = false) : wyU ν n U frm goal = none := by
  cases e : wyU ν n U frm goal with
  | none => rfl
  | some l =>
    obtain ⟨h1, h2, h3, h4⟩ := wyU_ok h hfrm hgoal e
    cases l with
    | nil => exact absurd h1 hne
    | cons d l =>
      have := h4 0 d rfl
      rw [hU d this.1] at this
      cases this.2
theorem lL_len (l : List Nat) : (lL l).length = l.length := by unfold lL; simp
/-- both sides answer with a way -/
theorem T_way {D : Nat} (hD : 4 ≤ D) (x y : Int32) (μ : m2M) (h : REL μ) : stp D yX11_way cX11_way 3 (some .int) yX12_way cX12_way 3 (some .int) [.int x, .int y] μ REL := by
  obtain ⟨D, rfl⟩ : ∃ E, D = E + 1 := ⟨D - 1, by omega⟩
  obtain ⟨n, p, hR⟩ := id h
  have hR : RLn μ μ n p := hR
  have hn := hR.n20
  have hp := hR.p8
  by_cases ok : in_ p x ∧ in_ 12 y
  · obtain ⟨⟨q, hq, rfl⟩, g, hg, rfl⟩ := ok
    have hw := hR.hw q hq
    refine T_of (match wyU μ n (hO μ) (hW μ q) g with | none => some (.int (-2)) | some l => some (.int (nI l.length))) (match wyU μ n (hO μ) (hW μ q) g with | none => μ | some l => tlM μ (lL l)) ?_ (fun ν hv => ?_)
    · refine m2_MT.intro (ls := [.ref kC, .int (nI q), .int (nI g)]) (by decide +kernel) rfl (ble rfl) (fun κ hk => ?_)
      refine B_X11_way_0 hk (Nat.zero_le _) ⟨fun _ => ⟨fun _ => ⟨_, S_useAbove (m := 0) (by omega) μ hR.1.1 hn (fun d hd => ⟨(hR.cl d hd).1, by have := (hR.cl d hd).2; omega⟩) (by decide), fun μ10 e10 => ⟨vp_in_nI (by omega) (by decide), ?_⟩⟩, fun z => absurd (isRoom_iff.mpr ⟨g, hg, rfl⟩) z⟩, fun z => absurd ((fX6_has_iff hR.2.1.1 hp).mpr ⟨q, hq, rfl⟩) z⟩
      have j10 : jC μ μ10 := by rw [e10]; exact jC_sr jC.rf (fun _ => rfl) rfl
      have hR10 := j10.R hR
      have c10 : ∀ d, d < n → μ10.1 kR_cost d = if hO μ d = true then 1 else 0 := by
        intro d hd
        rw [e10]
        show (if d < n then (if 0 < hL μ d then (1 : Int32) else 0) else _) = _
        rw [if_pos hd]
        unfold hO
        by_cases z : 0 < hL μ d
        · rw [if_pos z, if_pos (decide_eq_true z)]
        · rw [if_neg z, if_neg (by simp [z])]
      rw [nI_clamp (by omega), (hR10.cw q hq).1]
      refine ⟨_, S_findU (U := hO μ) (by omega) μ μ10 hR10 c10 hw.2 hg, fun y15 μ16 r16 => ?_⟩
      obtain ⟨j16, _, m16⟩ := r16
      have hR16 := j16.R hR10
      revert m16
      cases e : wyU μ n (hO μ) (hW μ q) g with
      | none =>
        intro m16
        cases m16
        refine ⟨fun r μ' => r = some (.int (-2)) ∧ μ' = μ16, ?_, fun y20 μ21 r21 => ?_⟩
        · refine m2_MT.intro (ls := [.ref kC, .int (-1), .null]) (by decide +kernel) rfl (ble rfl) (fun κ' hk' => ?_)
          exact B_X11_tellRoute_0 hk' ⟨fun z => absurd rfl z, fun _ => ⟨rfl, rfl⟩⟩
        · rw [r21.1, r21.2]
          exact ⟨rfl, hR16.r, (j10.tr j16).2.c⟩
      | some l =>
        intro m16
        obtain ⟨a1, a2, a3, a4⟩ := wyU_ok hR hw.2 hg e
        have := m16.1
        cases this
        refine ⟨_, S_tellRoute (by omega) μ16 (by omega) (fun i d q => ⟨m16.2 i d q, by have := (a4 i d q).1; omega⟩), fun y20 μ21 r21 => ?_⟩
        rw [r21.1]
        exact ⟨rfl, REL2.tell hR16.r r21.2.1 r21.2.2 (by rw [lL_len]; omega), r21.2.2.fr rfl rfl (j10.tr j16).2.c⟩
    · have hv' := hv.thr
      have f1 : frM ν (m2_si ν kM 22 0) := fr_si rfl fr.rf
      have g7 : ν.1 kM 7 = nI p := (hv.1 kM 7 rfl rfl).trans hR.2.1.2.1
      refine m2_MT.intro (ls := [.ref kM, .int (nI q), .int (nI g)]) (by decide +kernel) rfl (ble rfl) (fun κ hk => ?_)
      refine B_X12_way_0 hk (by omega) ⟨fun _ => ⟨fun _ => ⟨vp_in_nI (by omega) (by decide), ?_⟩, fun z => absurd (isRoomM_iff.mpr ⟨g, hg, rfl⟩) z⟩, fun z => absurd ((fX12_isOne_iff (μ := m2_si ν kM 22 0) g7 hp).mpr ⟨q, hq, rfl⟩) z⟩
      rw [nI_clamp (by omega), hv.1 kM_where q rfl rfl, hw.1]
      refine ⟨_, S_findOpenWay (by omega) μ _ μ hR hv' hw.2 hg, fun y10 μ11 r11 => ?_⟩
      obtain ⟨j11, m11⟩ := r11
      have hv11 := j11.v hv'
      revert m11
      cases e : wyU μ n (hO μ) (hW μ q) g with
      | none =>
        intro m11
        cases m11
        exact ⟨fun z => absurd rfl z, fun _ => ⟨rfl, hv11, f1.tr j11.2.m⟩⟩
      | some l =>
        intro m11
        obtain ⟨a1, a2, a3, a4⟩ := wyU_ok hR hw.2 hg e
        have := m11.1
        cases this
        refine ⟨fun _ => ⟨_, S_tellWay (by omega) (m2_si μ11 kM 21 0) (l := l) (by omega) rM.i m11.2.1 (fun i d q => ⟨m11.2.2 i d q, by have := (a4 i d q).1; omega⟩), fun μ17 r17 => ?_⟩, fun z => absurd z (by decide)⟩
        have t17 := twM.i.tr r17.2.1
        refine ⟨by rw [r17.2.2], hv11.tell r17.1 t17 (by rw [lL_len]; omega), t17.fr rfl rfl (f1.tr j11.2.m)⟩
  · refine T_of (some (.int (-1))) μ ?_ (fun ν hv => ?_)
    · refine m2_MT.intro (ls := [.ref kC, .int x, .int y]) (by decide +kernel) rfl (ble rfl) (fun κ hk => ?_)
      exact B_X11_way_0 hk (Nat.zero_le _) ⟨fun z => ⟨fun z2 => absurd ⟨(fX6_has_iff hR.2.1.1 hp).mp z, isRoom_iff.mp z2⟩ ok, fun _ => ⟨rfl, h, fr.rf⟩⟩, fun _ => ⟨rfl, h, fr.rf⟩⟩
    · have fin : (some (Value.int (-1)) = some (Value.int (-1)) ∧ vM μ (m2_si ν kM 22 0) ∧ frM ν (m2_si ν kM 22 0)) := ⟨rfl, hv.thr, fr_si rfl fr.rf⟩
      have g7 : ν.1 kM 7 = nI p := (hv.1 kM 7 rfl rfl).trans hR.2.1.2.1
      refine m2_MT.intro (ls := [.ref kM, .int x, .int y]) (by decide +kernel) rfl (ble rfl) (fun κ hk => ?_)
      exact B_X12_way_0 hk (by omega) ⟨fun z => ⟨fun z2 => absurd ⟨(fX12_isOne_iff (μ := m2_si ν kM 22 0) g7 hp).mp z, isRoomM_iff.mp z2⟩ ok, fun _ => fin⟩, fun _ => fin⟩
