/-! price: readThing, readJoint -/
set_option maxRecDepth 100000 in
set_option maxHeartbeats 4000000 in
theorem Bs_X7_read_57 {κ : Nat → List Value → List Value → m2M → Prop} {D : Nat} {Q : Option Value → m2M → Prop} (h : m2_RLs κ cX7_read RX7 4 (D + 1) (some .int) Q) {v1 : Int32} {v2 : Int32} {v3 : Int32} {μ : m2M} (k : (40 ≤ v3 → κ 121 [.ref kE, .int v1, .int v2, .int v3] [] μ) ∧ (¬ 40 ≤ v3 → (v2 = 0 → κ 121 [.ref kE, .int v1, .int v2, .int v3] [] μ) ∧ (¬ v2 = 0 → ((μ.1 kE 10) ≤ (μ.1 kE 11) → κ 121 [.ref kE, .int v1, .int v2, .int v3] [] μ) ∧ (¬ (μ.1 kE 10) ≤ (μ.1 kE 11) → ((μ.1 kE 12) = 0 → (vp_in (μ.1 kE 11) 80) ∧ (∃ Q12 : Option Value → m2M → Prop, m2_MT D yX7_readJoint cX7_readJoint 3 (some .boolean) [.ref kE, .int (μ.1 kC_text ((μ.1 kE 11)).toNatClampNeg)] μ Q12 ∧ ∀ (y10 : Int32) (μ11 : m2M), Q12 (some (.int y10)) μ11 → (κ 57 [.ref kE, .int v1, .int y10, .int (v3 + 1)] [] μ11))) ∧ (¬ (μ.1 kE 12) = 0 → (vp_in (μ.1 kE 11) 80) ∧ (∃ Q18 : Option Value → m2M → Prop, m2_MTs D yX7_readThing cX7_readThing 3 (some .boolean) [.ref kE, .int (μ.1 kC_text ((μ.1 kE 11)).toNatClampNeg)] μ Q18 ∧ ∀ (y16 : Int32) (μ17 : m2M), Q18 (some (.int y16)) μ17 → (κ 57 [.ref kE, .int v1, .int y16, .int (v3 + 1)] [] μ17))))))) : κ 57 [.ref kE, .int v1, .int v2, .int v3] [] μ := by
  have hB := h.rl.b
  refine m2_iload_n hB dX7_read_57 rfl ?_
  refine m2_bipush hB dX7_read_58 (v := 40) (by decide) ?_
  refine m2_icmp_ge hB dX7_read_60 (tgt := 121) (by decide) (fun q2 : 40 ≤ v3 => ?_) (fun q2 : ¬ 40 ≤ v3 => ?_)
  · replace k := k.1 q2
    exact k
  · replace k := k.2 q2
    refine m2_iload_n hB dX7_read_63 rfl ?_
    refine m2_if_eq hB dX7_read_64 (tgt := 121) (by decide) (fun q4 : v2 = 0 => ?_) (fun q4 : ¬ v2 = 0 => ?_)
    · replace k := k.1 q4
      exact k
    · replace k := k.2 q4
      refine m2_aload_n hB dX7_read_67 rfl ?_
      refine m2_getI hB dX7_read_68 fl_X7_43 sh_kE rfl ?_
      refine m2_aload_n hB dX7_read_71 rfl ?_
      refine m2_getI hB dX7_read_72 fl_X7_39 sh_kE rfl ?_
      refine m2_icmp_ge hB dX7_read_75 (tgt := 121) (by decide) (fun q6 : (μ.1 kE 10) ≤ (μ.1 kE 11) => ?_) (fun q6 : ¬ (μ.1 kE 10) ≤ (μ.1 kE 11) => ?_)
      · replace k := k.1 q6
        exact k
      · replace k := k.2 q6
        refine m2_aload_n hB dX7_read_78 rfl ?_
        refine m2_getI hB dX7_read_79 fl_X7_55 sh_kE rfl ?_
        refine m2_if_eq hB dX7_read_82 (tgt := 101) (by decide) (fun q8 : (μ.1 kE 12) = 0 => ?_) (fun q8 : ¬ (μ.1 kE 12) = 0 => ?_)
        · replace k := k.1 q8
          refine m2_aload_n hB dX7_read_101 rfl ?_
          refine m2_aload_n hB dX7_read_102 rfl ?_
          refine m2_getR hB dX7_read_103 fl_X7_29 sh_kE (c1 := kC_text) rfl ?_
          refine m2_aload_n hB dX7_read_106 rfl ?_
          refine m2_getI hB dX7_read_107 fl_X7_43 sh_kE rfl ?_
          obtain ⟨hi9, k⟩ := k
          refine m2_cald hB dX7_read_110 sh_kC_text hi9 ?_
          obtain ⟨Q12, hM13, k⟩ := k
          refine m2_invz hB (as := [.int (μ.1 kC_text ((μ.1 kE 11)).toNatClampNeg)]) dX7_read_111 mv_X7_63 rfl sh_kE rfl (Nat.le_of_ble_eq_true rfl) rfl hM13 (fun y10 μ11 hq14 => ?_)
          replace k := k y10 μ11 hq14
          refine m2_istore_n hB (ls' := [.ref kE, .int v1, .int y10, .int v3]) dX7_read_114 rfl (by decide) rfl ?_
          refine m2_iinc hB (ls' := [.ref kE, .int v1, .int y10, .int (v3 + 1)]) (v := (v3 + 1)) dX7_read_115 rfl (by decide) rfl rfl ?_
          refine m2_goto hB dX7_read_118 (tgt := 57) (by decide) ?_
          exact k
        · replace k := k.2 q8
          refine m2_aload_n hB dX7_read_85 rfl ?_
          refine m2_aload_n hB dX7_read_86 rfl ?_
          refine m2_getR hB dX7_read_87 fl_X7_29 sh_kE (c1 := kC_text) rfl ?_
          refine m2_aload_n hB dX7_read_90 rfl ?_
          refine m2_getI hB dX7_read_91 fl_X7_43 sh_kE rfl ?_
          obtain ⟨hi15, k⟩ := k
          refine m2_cald hB dX7_read_94 sh_kC_text hi15 ?_
          obtain ⟨Q18, hM19, k⟩ := k
          refine m2_invs h.bs (as := [.int (μ.1 kC_text ((μ.1 kE 11)).toNatClampNeg)]) dX7_read_95 mv_X7_59 rfl sh_kE rfl (Nat.le_of_ble_eq_true rfl) rfl hM19 (fun r16 μ17 hr16 hq20 => ?_)
          obtain ⟨y16, rfl⟩ := hr16
          replace k := k y16 μ17 hq20
          refine m2_goto hB dX7_read_98 (tgt := 114) (by decide) ?_
          refine m2_istore_n hB (ls' := [.ref kE, .int v1, .int y16, .int v3]) dX7_read_114 rfl (by decide) rfl ?_
          refine m2_iinc hB (ls' := [.ref kE, .int v1, .int y16, .int (v3 + 1)]) (v := (v3 + 1)) dX7_read_115 rfl (by decide) rfl rfl ?_
          refine m2_goto hB dX7_read_118 (tgt := 57) (by decide) ?_
          exact k
set_option maxRecDepth 100000 in
set_option maxHeartbeats 4000000 in
theorem Bs_X11_price_0 {κ : Nat → List Value → List Value → m2M → Prop} {D : Nat} {Q : Option Value → m2M → Prop} (h : m2_RLs κ cX11_price RX11 2 (D + 1) (some .int) Q)  {μ : m2M} (k : ∃ Q3 : Option Value → m2M → Prop, m2_MTs D yX7_read cX7_read 4 (some .int) [.ref kE, .int (μ.1 kC 1)] μ Q3 ∧ ∀ (y1 : Int32) (μ2 : m2M), Q3 (some (.int y1)) μ2 → (Q (some (.int y1)) (m2_si μ2 kC 1 0))) : κ 0 [.ref kC, .null] [] μ := by
  have hB := h.rl.b
  refine m2_aload_n hB dX11_price_0 rfl ?_
  refine m2_getR hB dX11_price_1 fl_X11_64 sh_kC (c1 := kE) rfl ?_
  refine m2_aload_n hB dX11_price_4 rfl ?_
  refine m2_getI hB dX11_price_5 fl_X11_121 sh_kC rfl ?_
  obtain ⟨Q3, hM4, k⟩ := k
  refine m2_invs h.bs (as := [.int (μ.1 kC 1)]) dX11_price_8 mv_X11_129 rfl sh_kE rfl (Nat.le_of_ble_eq_true rfl) rfl hM4 (fun r1 μ2 hr1 hq5 => ?_)
  obtain ⟨y1, rfl⟩ := hr1
  replace k := k y1 μ2 hq5
  refine m2_istore_n hB (ls' := [.ref kC, .int y1]) dX11_price_11 rfl (by decide) rfl ?_
  refine m2_aload_n hB dX11_price_12 rfl ?_
  refine m2_iconst hB dX11_price_13 (v := 0) (by decide) ?_
  refine m2_putI hB dX11_price_14 fl_X11_121 sh_kC rfl ?_
  refine m2_iload_n hB dX11_price_17 rfl ?_
  exact m2_iret h.rl dX11_price_18 k
theorem dX7_readThing_0 : decode cX7_readThing 0 = .ok (.iload_n 1, 1) := by decide +kernel
theorem dX7_readThing_1 : decode cX7_readThing 1 = .ok (.invokestatic 79, 3) := by decide +kernel
theorem dX7_readThing_4 : decode cX7_readThing 4 = .ok (.ifCond .eq 18, 3) := by decide +kernel
theorem dX7_readThing_7 : decode cX7_readThing 7 = .ok (.aload_n 0, 1) := by decide +kernel
theorem dX7_readThing_8 : decode cX7_readThing 8 = .ok (.aload_n 0, 1) := by decide +kernel
theorem dX7_readThing_9 : decode cX7_readThing 9 = .ok (.invokevirtual 84, 3) := by decide +kernel
theorem dX7_readThing_12 : decode cX7_readThing 12 = .ok (.invokevirtual 88, 3) := by decide +kernel
theorem dX7_readThing_15 : decode cX7_readThing 15 = .ok (.aload_n 0, 1) := by decide +kernel
theorem dX7_readThing_16 : decode cX7_readThing 16 = .ok (.iconst 0, 1) := by decide +kernel
theorem dX7_readThing_17 : decode cX7_readThing 17 = .ok (.putfield 55, 3) := by decide +kernel
theorem dX7_readThing_20 : decode cX7_readThing 20 = .ok (.iconst 1, 1) := by decide +kernel
theorem dX7_readThing_21 : decode cX7_readThing 21 = .ok (.ireturn, 1) := by decide +kernel
theorem dX7_readThing_22 : decode cX7_readThing 22 = .ok (.ldc 91, 2) := by decide +kernel
theorem dX7_readThing_24 : decode cX7_readThing 24 = .ok (.iload_n 1, 1) := by decide +kernel
theorem dX7_readThing_25 : decode cX7_readThing 25 = .ok (.invokevirtual 93, 3) := by decide +kernel
theorem dX7_readThing_28 : decode cX7_readThing 28 = .ok (.istore_n 2, 1) := by decide +kernel
theorem dX7_readThing_29 : decode cX7_readThing 29 = .ok (.iload_n 2, 1) := by decide +kernel
theorem dX7_readThing_30 : decode cX7_readThing 30 = .ok (.ifCond .lt 18, 3) := by decide +kernel
theorem dX7_readThing_33 : decode cX7_readThing 33 = .ok (.aload_n 0, 1) := by decide +kernel
theorem dX7_readThing_34 : decode cX7_readThing 34 = .ok (.iconst (-1), 1) := by decide +kernel
theorem dX7_readThing_35 : decode cX7_readThing 35 = .ok (.iload_n 2, 1) := by decide +kernel
theorem dX7_readThing_36 : decode cX7_readThing 36 = .ok (.isub, 1) := by decide +kernel
theorem dX7_readThing_37 : decode cX7_readThing 37 = .ok (.invokevirtual 88, 3) := by decide +kernel
theorem dX7_readThing_40 : decode cX7_readThing 40 = .ok (.aload_n 0, 1) := by decide +kernel
theorem dX7_readThing_41 : decode cX7_readThing 41 = .ok (.iconst 0, 1) := by decide +kernel
theorem dX7_readThing_42 : decode cX7_readThing 42 = .ok (.putfield 55, 3) := by decide +kernel
theorem dX7_readThing_45 : decode cX7_readThing 45 = .ok (.goto 64, 3) := by decide +kernel
theorem dX7_readThing_48 : decode cX7_readThing 48 = .ok (.iload_n 1, 1) := by decide +kernel
theorem dX7_readThing_49 : decode cX7_readThing 49 = .ok (.bipush 45, 2) := by decide +kernel
theorem dX7_readThing_51 : decode cX7_readThing 51 = .ok (.if_icmp .ne 13, 3) := by decide +kernel
theorem dX7_readThing_54 : decode cX7_readThing 54 = .ok (.aload_n 0, 1) := by decide +kernel
theorem dX7_readThing_55 : decode cX7_readThing 55 = .ok (.sipush 256, 3) := by decide +kernel
theorem dX7_readThing_58 : decode cX7_readThing 58 = .ok (.invokevirtual 99, 3) := by decide +kernel
theorem dX7_readThing_61 : decode cX7_readThing 61 = .ok (.goto 48, 3) := by decide +kernel
theorem dX7_readThing_64 : decode cX7_readThing 64 = .ok (.iload_n 1, 1) := by decide +kernel
theorem dX7_readThing_65 : decode cX7_readThing 65 = .ok (.bipush 40, 2) := by decide +kernel
theorem dX7_readThing_67 : decode cX7_readThing 67 = .ok (.if_icmp .ne 40, 3) := by decide +kernel
theorem dX7_readThing_70 : decode cX7_readThing 70 = .ok (.aload_n 0, 1) := by decide +kernel
theorem dX7_readThing_71 : decode cX7_readThing 71 = .ok (.getfield 52, 3) := by decide +kernel
theorem dX7_readThing_74 : decode cX7_readThing 74 = .ok (.iconst 4, 1) := by decide +kernel
theorem dX7_readThing_75 : decode cX7_readThing 75 = .ok (.if_icmp .ge 32, 3) := by decide +kernel
theorem dX7_readThing_78 : decode cX7_readThing 78 = .ok (.aload_n 0, 1) := by decide +kernel
theorem dX7_readThing_79 : decode cX7_readThing 79 = .ok (.dup, 1) := by decide +kernel
theorem dX7_readThing_80 : decode cX7_readThing 80 = .ok (.getfield 52, 3) := by decide +kernel
theorem dX7_readThing_83 : decode cX7_readThing 83 = .ok (.iconst 1, 1) := by decide +kernel
theorem dX7_readThing_84 : decode cX7_readThing 84 = .ok (.iadd, 1) := by decide +kernel
theorem dX7_readThing_85 : decode cX7_readThing 85 = .ok (.putfield 52, 3) := by decide +kernel
theorem dX7_readThing_88 : decode cX7_readThing 88 = .ok (.aload_n 0, 1) := by decide +kernel
theorem dX7_readThing_89 : decode cX7_readThing 89 = .ok (.getfield 19, 3) := by decide +kernel
theorem dX7_readThing_92 : decode cX7_readThing 92 = .ok (.aload_n 0, 1) := by decide +kernel
theorem dX7_readThing_93 : decode cX7_readThing 93 = .ok (.getfield 52, 3) := by decide +kernel
theorem dX7_readThing_96 : decode cX7_readThing 96 = .ok (.iconst 0, 1) := by decide +kernel
theorem dX7_readThing_97 : decode cX7_readThing 97 = .ok (.bastore, 1) := by decide +kernel
theorem dX7_readThing_98 : decode cX7_readThing 98 = .ok (.aload_n 0, 1) := by decide +kernel
theorem dX7_readThing_99 : decode cX7_readThing 99 = .ok (.bipush 40, 2) := by decide +kernel
theorem dX7_readThing_101 : decode cX7_readThing 101 = .ok (.invokevirtual 99, 3) := by decide +kernel
theorem dX7_readThing_104 : decode cX7_readThing 104 = .ok (.goto 5, 3) := by decide +kernel
theorem dX7_readThing_107 : decode cX7_readThing 107 = .ok (.iconst 0, 1) := by decide +kernel
theorem dX7_readThing_108 : decode cX7_readThing 108 = .ok (.ireturn, 1) := by decide +kernel
theorem dX7_readThing_109 : decode cX7_readThing 109 = .ok (.aload_n 0, 1) := by decide +kernel
theorem dX7_readThing_110 : decode cX7_readThing 110 = .ok (.dup, 1) := by decide +kernel
theorem dX7_readThing_111 : decode cX7_readThing 111 = .ok (.getfield 43, 3) := by decide +kernel
theorem dX7_readThing_114 : decode cX7_readThing 114 = .ok (.iconst 1, 1) := by decide +kernel
theorem dX7_readThing_115 : decode cX7_readThing 115 = .ok (.iadd, 1) := by decide +kernel
theorem dX7_readThing_116 : decode cX7_readThing 116 = .ok (.putfield 43, 3) := by decide +kernel
theorem dX7_readThing_119 : decode cX7_readThing 119 = .ok (.iconst 1, 1) := by decide +kernel
theorem dX7_readThing_120 : decode cX7_readThing 120 = .ok (.ireturn, 1) := by decide +kernel
def frX (μ M : m2M) : Prop := fr (fun c => (c == kE) || (c == kE_draft) || (c == kE_waiting) || (c == kE_compared)) μ M ∧ M.1 kE 2 = μ.1 kE 2 ∧ M.1 kE 3 = μ.1 kE 3
theorem frX.rf {μ : m2M} : frX μ μ := ⟨fr.rf, rfl, rfl⟩
/-- what stays while signs are read -/
def xT (μ : m2M) (k e : Nat) (cm : Nat → Bool) (M : m2M) : Prop := frX μ M ∧ M.1 kE 9 = nI e ∧ e ≤ 4 ∧ (∀ j, j ≤ e → M.1 kE_compared j = if cm j = true then 1 else 0) ∧ M.1 kE 10 = nI (min k 40)
theorem xT.siE {μ M : m2M} {k e j : Nat} {cm : Nat → Bool} {x : Int32} (h : xT μ k e cm M) (hj : j ≠ 2 ∧ j ≠ 3 ∧ j ≠ 9 ∧ j ≠ 10) : xT μ k e cm (m2_si M kE j x) := by
  obtain ⟨⟨f1, f2, f3⟩, h9, he, hc, h10⟩ := h
  exact ⟨⟨fr_si rfl f1, by rw [si_nj _ _ _ (Ne.symm hj.1)]; exact f2, by rw [si_nj _ _ _ (Ne.symm hj.2.1)]; exact f3⟩, by rw [si_nj _ _ _ (Ne.symm hj.2.2.1)]; exact h9, he, fun i hi => by rw [si_nc _ _ _ (by decide)]; exact hc i hi, by rw [si_nj _ _ _ (Ne.symm hj.2.2.2)]; exact h10⟩
theorem xT.siD {μ M : m2M} {k e c j : Nat} {cm : Nat → Bool} {x : Int32} (h : xT μ k e cm M) (hc : c = kE_draft ∨ c = kE_waiting) : xT μ k e cm (m2_si M c j x) := by
  obtain ⟨⟨f1, f2, f3⟩, h9, he, hcm, h10⟩ := h
  rcases hc with rfl | rfl
  · exact ⟨⟨fr_si rfl f1, by rw [si_nc _ _ _ (by decide)]; exact f2, by rw [si_nc _ _ _ (by decide)]; exact f3⟩, by rw [si_nc _ _ _ (by decide)]; exact h9, he, fun i hi => by rw [si_nc _ _ _ (by decide)]; exact hcm i hi, by rw [si_nc _ _ _ (by decide)]; exact h10⟩
  · exact ⟨⟨fr_si rfl f1, by rw [si_nc _ _ _ (by decide)]; exact f2, by rw [si_nc _ _ _ (by decide)]; exact f3⟩, by rw [si_nc _ _ _ (by decide)]; exact h9, he, fun i hi => by rw [si_nc _ _ _ (by decide)]; exact hcm i hi, by rw [si_nc _ _ _ (by decide)]; exact h10⟩
theorem xT.em {μ M M' : m2M} {k e : Nat} {cm : Nat → Bool} (h : xT μ k e cm M) (f : frEm M M') : xT μ k e cm M' := by
  obtain ⟨⟨f1, f2, f3⟩, h9, he, hcm, h10⟩ := h
  refine ⟨⟨f1.tr (f.1.mo (fun c hc => ?_)), (f.2 2 (by decide) (by decide)).trans f2, (f.2 3 (by decide) (by decide)).trans f3⟩, (f.2 9 (by decide) (by decide)).trans h9, he, fun i hi => by rw [(f.1 kE_compared rfl).1]; exact hcm i hi, (f.2 10 (by decide) (by decide)).trans h10⟩
  simp only [Bool.or_eq_false_iff] at hc ⊢
  exact hc.1.1
theorem xW.siE {o ws : List Int32} {M : m2M} {j : Nat} {x : Int32} (h : xW o ws M) (hj : j ≠ 5 ∧ j ≠ 7) : xW o ws (m2_si M kE j x) := ⟨by rw [si_nj _ _ _ (Ne.symm hj.1)]; exact h.1, fun i c hi => by rw [si_nc _ _ _ (by decide)]; exact h.2.1 i c hi, by rw [si_nj _ _ _ (Ne.symm hj.2)]; exact h.2.2.1, by rw [si_nc _ _ _ (by decide)]; exact h.2.2.2⟩
theorem xW.siC {o ws : List Int32} {M : m2M} {j : Nat} {x : Int32} (h : xW o ws M) : xW o ws (m2_si M kE_compared j x) := ⟨by rw [si_nc _ _ _ (by decide)]; exact h.1, fun i c hi => by rw [si_nc _ _ _ (by decide)]; exact h.2.1 i c hi, by rw [si_nc _ _ _ (by decide)]; exact h.2.2.1, by rw [si_nc _ _ _ (by decide)]; exact h.2.2.2⟩
def xS (μ : m2M) (k a : Nat) (o ws : List Int32) (e : Nat) (cm : Nat → Bool) (w : Bool) (M : m2M) : Prop := xT μ k e cm M ∧ xW o ws M ∧ M.1 kE 11 = nI a ∧ M.1 kE 12 = (if w = true then 1 else 0) ∧ o.length + ws.length ≤ a ∧ a ≤ min k 40
theorem xT.cm {μ M : m2M} {k e : Nat} {cm cm' : Nat → Bool} (h : xT μ k e cm M) {j : Nat} {b : Bool} (hj : j ≤ e) (hc : cm' = upB cm j b) : xT μ k e cm' (m2_si M kE_compared j (if b = true then 1 else 0)) := by
  obtain ⟨⟨f1, f2, f3⟩, h9, he, hcm, h10⟩ := h
  refine ⟨⟨fr_si rfl f1, by rw [si_nc _ _ _ (by decide)]; exact f2, by rw [si_nc _ _ _ (by decide)]; exact f3⟩, by rw [si_nc _ _ _ (by decide)]; exact h9, he, fun i hi => ?_, by rw [si_nc _ _ _ (by decide)]; exact h10⟩
  rw [hc]
  unfold upB
  by_cases z : i = j
  · rw [z, si_at, if_pos rfl]
  · rw [si_nj _ _ _ z, if_neg z]; exact hcm i hi
theorem lm_all : ∀ b : Fin 256, (lmX (nI b.val) < 0 ↔ cp_nm (nI b.val).toInt8.toInt32 = 0) ∧ (cp_nm (nI b.val).toInt8.toInt32 ≠ 0 → -1 - lmX (nI b.val) = cp_nm (nI b.val).toInt8.toInt32) := by decide +kernel
theorem nH_k {g : Nat → Int32} {k : Nat} : ∀ (j a : Nat) (v : Int32), a ≤ min k 40 → (cp_n g k j a v).2 ≤ min k 40
  | 0, a, v, h => h
  | j + 1, a, v, h => by
    show (if cp_dg (cp_h g k a) = true then cp_n g k j (a + 1) (10 * v + cp_h g k a - 48) else (v, a)).2 ≤ min k 40
    by_cases d : cp_dg (cp_h g k a) = true
    · rw [if_pos d]
      have := hT_lt (k := k) (g := g) (top := 40) (a := a) (dg_ne d)
      exact nH_k j (a + 1) _ (by omega)
    · rw [if_neg d]
      exact h
set_option maxRecDepth 100000 in
set_option maxHeartbeats 4000000 in
theorem S_readThing {D k a e b : Nat} {g : Nat → Int32} {o ws : List Int32} {cm : Nat → Bool} (hD : 5 ≤ D) (μ0 M : m2M) (tx : txC M g) (hx : xS μ0 k a o ws e cm true M) (ha : a < min k 40) (hb : b < 256) (e2 : cp_h g k a = (nI b).toInt8.toInt32) : m2_MTs D yX7_readThing cX7_readThing 3 (some .boolean) [.ref kE, .int (nI b)] M (fun r M' =>
    (cp_dg (cp_h g k a) = true ∧ r = some (.int 1) ∧ xS μ0 k (cp_n g k 3 a 0).2 (o ++ [(cp_n g k 3 a 0).1]) ws e cm false M') ∨
    (¬ cp_dg (cp_h g k a) = true ∧ cp_nm (cp_h g k a) ≠ 0 ∧ r = some (.int 1) ∧ xS μ0 k (a + 1) (o ++ [cp_nm (cp_h g k a)]) ws e cm false M') ∨
    (cp_h g k a = 45 ∧ r = some (.int 1) ∧ xS μ0 k (a + 1) o (256 :: ws) e cm true M') ∨
    (cp_h g k a = 40 ∧ e < 4 ∧ r = some (.int 1) ∧ xS μ0 k (a + 1) o (40 :: ws) (e + 1) (upB cm (e + 1) false) true M') ∨
    (¬ cp_h g k a = 45 ∧ ¬ (cp_h g k a = 40 ∧ e < 4) ∧ ¬ cp_dg (cp_h g k a) = true ∧ cp_nm (cp_h g k a) = 0 ∧ r = some (.int 0) ∧ M' = M)) := by
  obtain ⟨D, rfl⟩ : ∃ E, D = E + 1 := ⟨D - 1, by omega⟩
  obtain ⟨hT, hW, h11, h12, hl, hle⟩ := id hx
  refine m2_MTs.intro (ls := [.ref kE, .int (nI b), .null]) (by decide +kernel) rfl (ble rfl) (fun κ hs => ?_)
  have h := hs.rl
  have hB := h.b
  refine m2_iload_n hB dX7_readThing_0 rfl ?_
  refine m2_invNz hB (as := [.int (nI b)]) dX7_readThing_1 mn_X7_79 rfl (ble rfl) rfl (P_X11_isDigit (by omega) (nI b) _) (fun y1 μ1 hq => ?_)
  obtain ⟨q1, q2⟩ := hq
  cases q1
  have q2 := q2.symm
  subst q2
  refine m2_if_eq hB dX7_readThing_4 (tgt := 22) (by decide) (fun z => ?_) (fun z => ?_)
  rotate_left
  · have d1 : cp_dg (cp_h g k a) = true := by
      rw [e2]
      refine (tx_dg hb).mp ?_
      by_cases y : fX11_isDigit (nI b) = 1
      · exact y
      · rw [if_neg y] at z; exact absurd rfl z
    refine m2_aload_n hB dX7_readThing_7 rfl ?_
    refine m2_aload_n hB dX7_readThing_8 rfl ?_
    refine m2_invi hB (as := []) dX7_readThing_9 mv_X7_84 rfl sh_kE rfl (ble rfl) rfl (S_readNumberP (k := k) (a := a) (g := g) (by omega) M tx hT.2.2.2.2 h11 (by omega)) (fun y2 μ2 hq2 => ?_)
    obtain ⟨q3, q4⟩ := hq2
    cases q3
    subst q4
    have hW2 := hW.siE (j := 11) (x := nI (cp_n g k 3 a 0).2) ⟨by decide, by decide⟩
    refine m2_invv hB (as := [.int (cp_n g k 3 a 0).1]) dX7_readThing_12 mv_X7_88 rfl sh_kE rfl (ble rfl) rfl (S_emit (n := o.length) (cp_n g k 3 a 0).1 _ hW2.1 (by omega)) (fun μ3 q5 => ?_)
    subst q5
    refine m2_aload_n hB dX7_readThing_15 rfl ?_
    refine m2_iconst hB dX7_readThing_16 (v := 0) (by decide) ?_
    refine m2_putZ hB (Or.inl rfl) dX7_readThing_17 fl_X7_55 sh_kE rfl ?_
    refine m2_iconst hB dX7_readThing_20 (v := 1) (by decide) ?_
    refine m2_zret h dX7_readThing_21 (Or.inr rfl) (Or.inl ⟨d1, rfl, ?_⟩)
    have ex : cp_n g k 3 a 0 = cp_n g k 2 (a + 1) (10 * 0 + cp_h g k a - 48) := by
      show cp_nH _ _ _ _ = _
      rw [cp_nH, if_pos d1]
    have np := nH_pos (top := 40) (k := k) (g := g) 2 (a + 1) (10 * 0 + cp_h g k a - 48) (by omega)
    have npk : (cp_n g k 3 a 0).2 ≤ min k 40 := nH_k 3 a 0 (by omega)
    refine ⟨(((hT.siE ⟨by decide, by decide, by decide, by decide⟩).siD (Or.inl rfl)).siE ⟨by decide, by decide, by decide, by decide⟩).siE ⟨by decide, by decide, by decide, by decide⟩, (hW2.emit _).siE ⟨by decide, by decide⟩, ?_, ?_, ?_, npk⟩
    · rw [si_nj _ _ _ (by decide), si_nj _ _ _ (by decide), si_nc _ _ _ (by decide), si_at]
    · rw [si_at]; rfl
    · rw [ex]
      have n1 : a + 1 ≤ (cp_n g k 2 (a + 1) (10 * 0 + cp_h g k a - 48)).2 := np.1
      rw [List.length_append]
      show o.length + 1 + ws.length ≤ (cp_n g k 2 (a + 1) (10 * 0 + cp_h g k a - 48)).2
      omega
  · have d1 : ¬ cp_dg (cp_h g k a) = true := by
      rw [e2]
      intro y
      rw [if_pos ((tx_dg hb).mpr y)] at z
      exact absurd z (by decide)
    refine m2_ldcS hs.bs dX7_readThing_22 ?_
    refine m2_iload_n hB dX7_readThing_24 rfl ?_
    refine m2_invT hs.bs dX7_readThing_25 mv_X7_93 (as := [.int (nI b)]) (st := []) rfl (ble rfl) rfl (S_indexOf (by omega) (nI b) M) (fun r μ1 hr hq => ?_)
    obtain ⟨q1, q2⟩ := hq
    subst q1
    have q2 := q2.symm
    subst q2
    obtain ⟨n1, n2⟩ := lm_all ⟨b, hb⟩
    have n1 : lmX (nI b) < 0 ↔ cp_nm (cp_h g k a) = 0 := by rw [e2]; exact n1
    have n2 : cp_nm (cp_h g k a) ≠ 0 → -1 - lmX (nI b) = cp_nm (cp_h g k a) := by rw [e2]; exact n2
    refine m2_istore_n hB (ls' := [.ref kE, .int (nI b), .int (lmX (nI b))]) dX7_readThing_28 rfl (by decide) rfl ?_
    refine m2_iload_n hB dX7_readThing_29 rfl ?_
    refine m2_if_lt hB dX7_readThing_30 (tgt := 48) (by decide) (fun y => ?_) (fun y => ?_)
    · have nm0 := n1.mp y
      refine m2_iload_n hB dX7_readThing_48 rfl ?_
      refine m2_bipush hB dX7_readThing_49 (v := 45) (by decide) ?_
      refine m2_icmp_ne hB dX7_readThing_51 (tgt := 64) (by decide) (fun x1 => ?_) (fun x1 => ?_)
      · have h45 : ¬ cp_h g k a = 45 := fun q => x1 ((tx_eq (c := 45) hb (by decide)).mpr (by rw [← e2]; exact q))
        refine m2_iload_n hB dX7_readThing_64 rfl ?_
        refine m2_bipush hB dX7_readThing_65 (v := 40) (by decide) ?_
        have no : ¬ (cp_h g k a = 40 ∧ e < 4) → κ 107 [.ref kE, .int (nI b), .int (lmX (nI b))] [] M := by
          intro q
          refine m2_iconst hB dX7_readThing_107 (v := 0) (by decide) ?_
          exact m2_zret h dX7_readThing_108 (Or.inl rfl) (Or.inr (Or.inr (Or.inr (Or.inr ⟨h45, q, d1, nm0, rfl, rfl⟩))))
        refine m2_icmp_ne hB dX7_readThing_67 (tgt := 107) (by decide) (fun x2 => no (fun q => x2 ((tx_eq (c := 40) hb (by decide)).mpr (by rw [← e2]; exact q.1)))) (fun x2 => ?_)
        have h40 : cp_h g k a = 40 := by rw [e2]; exact (tx_eq (c := 40) hb (by decide)).mp x2
        refine m2_aload_n hB dX7_readThing_70 rfl ?_
        refine m2_getI hB dX7_readThing_71 fl_X7_52 sh_kE rfl ?_
        refine m2_iconst hB dX7_readThing_74 (v := 4) (by decide) ?_
        rw [hT.2.1]
        have he4 := hT.2.2.1
        refine m2_icmp_ge hB dX7_readThing_75 (tgt := 107) (by decide) (fun x3 => no (fun q => absurd x3 (nI_ge (b := 4) q.2 (by decide)))) (fun x3 => ?_)
        have he : e < 4 := by
          apply Classical.byContradiction
          intro q
          exact x3 (nI_le (a := 4) (by omega) (by omega))
        refine m2_aload_n hB dX7_readThing_78 rfl ?_
        refine m2_dup hB dX7_readThing_79 rfl ?_
        refine m2_getI hB dX7_readThing_80 fl_X7_52 sh_kE rfl ?_
        refine m2_iconst hB dX7_readThing_83 (v := 1) (by decide) ?_
        refine m2_iadd hB dX7_readThing_84 ?_
        rw [hT.2.1, nI_1]
        refine m2_putI hB dX7_readThing_85 fl_X7_52 sh_kE rfl ?_
        refine m2_aload_n hB dX7_readThing_88 rfl ?_
        refine m2_getR hB dX7_readThing_89 fl_X7_19 sh_kE (c1 := kE_compared) rfl ?_
        refine m2_aload_n hB dX7_readThing_92 rfl ?_
        refine m2_getI hB dX7_readThing_93 fl_X7_52 sh_kE rfl ?_
        rw [si_at]
        refine m2_iconst hB dX7_readThing_96 (v := 0) (by decide) ?_
        refine m2_zast hB dX7_readThing_97 sh_kE_compared (vp_in_nI (by omega) (by decide)) ?_
        rw [nI_clamp (by omega)]
        refine m2_aload_n hB dX7_readThing_98 rfl ?_
        refine m2_bipush hB dX7_readThing_99 (v := 40) (by decide) ?_
        have hW3 : xW o ws (m2_si (m2_si M kE 9 (nI (e + 1))) kE_compared (e + 1) (vp_nar .boolean 0)) := (hW.siE ⟨by decide, by decide⟩).siC
        refine m2_invv hB (as := [.int 40]) dX7_readThing_101 mv_X7_99 rfl sh_kE rfl (ble rfl) rfl (S_hold (n := ws.length) 40 _ hW3.2.2.1 (by omega)) (fun μ3 q5 => ?_)
        subst q5
        refine m2_goto hB dX7_readThing_104 (tgt := 109) (by decide) ?_
        refine m2_aload_n hB dX7_readThing_109 rfl ?_
        refine m2_dup hB dX7_readThing_110 rfl ?_
        refine m2_getI hB dX7_readThing_111 fl_X7_43 sh_kE rfl ?_
        refine m2_iconst hB dX7_readThing_114 (v := 1) (by decide) ?_
        refine m2_iadd hB dX7_readThing_115 ?_
        rw [si_nj _ _ _ (by decide), si_nc _ _ _ (by decide), si_nc _ _ _ (by decide), si_nj _ _ _ (by decide), h11, nI_1]
        refine m2_putI hB dX7_readThing_116 fl_X7_43 sh_kE rfl ?_
        refine m2_iconst hB dX7_readThing_119 (v := 1) (by decide) ?_
        refine m2_zret h dX7_readThing_120 (Or.inr rfl) (Or.inr (Or.inr (Or.inr (Or.inl ⟨h40, he, rfl, ?_⟩))))
        have hT2 : xT μ0 k (e + 1) (upB cm (e + 1) false) (m2_si (m2_si M kE 9 (nI (e + 1))) kE_compared (e + 1) (vp_nar .boolean 0)) := by
          obtain ⟨⟨f1, f2, f3⟩, h9, _, hcm, h10⟩ := hT
          refine ⟨⟨fr_si rfl (fr_si rfl f1), by rw [si_nc _ _ _ (by decide), si_nj _ _ _ (by decide)]; exact f2, by rw [si_nc _ _ _ (by decide), si_nj _ _ _ (by decide)]; exact f3⟩, by rw [si_nc _ _ _ (by decide), si_at], by omega, fun i hi => ?_, by rw [si_nc _ _ _ (by decide), si_nj _ _ _ (by decide)]; exact h10⟩
          unfold upB
          by_cases q : i = e + 1
          · rw [q, si_at, if_pos rfl]; rfl
          · rw [si_nj _ _ _ q, si_nc _ _ _ (by decide), if_neg q]; exact hcm i (by omega)
        refine ⟨((hT2.siD (Or.inr rfl)).siE ⟨by decide, by decide, by decide, by decide⟩).siE ⟨by decide, by decide, by decide, by decide⟩, (hW3.hold 40).siE ⟨by decide, by decide⟩, si_at _ _ _ _, ?_, ?_, by omega⟩
        · rw [si_nj _ _ _ (by decide), si_nj _ _ _ (by decide), si_nc _ _ _ (by decide), si_nc _ _ _ (by decide), si_nj _ _ _ (by decide)]; exact h12
        · show o.length + (ws.length + 1) ≤ a + 1
          omega
      · have h45 : cp_h g k a = 45 := by rw [e2]; exact (tx_eq (c := 45) hb (by decide)).mp x1
        refine m2_aload_n hB dX7_readThing_54 rfl ?_
        refine m2_sipush hB dX7_readThing_55 (v := 256) (by decide) ?_
        refine m2_invv hB (as := [.int 256]) dX7_readThing_58 mv_X7_99 rfl sh_kE rfl (ble rfl) rfl (S_hold (n := ws.length) 256 _ hW.2.2.1 (by omega)) (fun μ3 q5 => ?_)
        subst q5
        refine m2_goto hB dX7_readThing_61 (tgt := 109) (by decide) ?_
        refine m2_aload_n hB dX7_readThing_109 rfl ?_
        refine m2_dup hB dX7_readThing_110 rfl ?_
        refine m2_getI hB dX7_readThing_111 fl_X7_43 sh_kE rfl ?_
        refine m2_iconst hB dX7_readThing_114 (v := 1) (by decide) ?_
        refine m2_iadd hB dX7_readThing_115 ?_
        rw [si_nj _ _ _ (by decide), si_nc _ _ _ (by decide), h11, nI_1]
        refine m2_putI hB dX7_readThing_116 fl_X7_43 sh_kE rfl ?_
        refine m2_iconst hB dX7_readThing_119 (v := 1) (by decide) ?_
        refine m2_zret h dX7_readThing_120 (Or.inr rfl) (Or.inr (Or.inr (Or.inl ⟨h45, rfl, ?_⟩)))
        refine ⟨((hT.siD (Or.inr rfl)).siE ⟨by decide, by decide, by decide, by decide⟩).siE ⟨by decide, by decide, by decide, by decide⟩, (hW.hold 256).siE ⟨by decide, by decide⟩, si_at _ _ _ _, ?_, ?_, by omega⟩
        · rw [si_nj _ _ _ (by decide), si_nj _ _ _ (by decide), si_nc _ _ _ (by decide)]; exact h12
        · show o.length + (ws.length + 1) ≤ a + 1
          omega
    · have nm0 : cp_nm (cp_h g k a) ≠ 0 := fun q => y (n1.mpr q)
      refine m2_aload_n hB dX7_readThing_33 rfl ?_
      refine m2_iconst hB dX7_readThing_34 (v := -1) (by decide) ?_
      refine m2_iload_n hB dX7_readThing_35 rfl ?_
      refine m2_isub hB dX7_readThing_36 ?_
      rw [n2 nm0]
      refine m2_invv hB (as := [.int (cp_nm (cp_h g k a))]) dX7_readThing_37 mv_X7_88 rfl sh_kE rfl (ble rfl) rfl (S_emit (n := o.length) (cp_nm (cp_h g k a)) _ hW.1 (by omega)) (fun μ3 q5 => ?_)
      subst q5
      refine m2_aload_n hB dX7_readThing_40 rfl ?_
      refine m2_iconst hB dX7_readThing_41 (v := 0) (by decide) ?_
      refine m2_putZ hB (Or.inl rfl) dX7_readThing_42 fl_X7_55 sh_kE rfl ?_
      refine m2_goto hB dX7_readThing_45 (tgt := 109) (by decide) ?_
      refine m2_aload_n hB dX7_readThing_109 rfl ?_
      refine m2_dup hB dX7_readThing_110 rfl ?_
      refine m2_getI hB dX7_readThing_111 fl_X7_43 sh_kE rfl ?_
      refine m2_iconst hB dX7_readThing_114 (v := 1) (by decide) ?_
      refine m2_iadd hB dX7_readThing_115 ?_
      rw [si_nj _ _ _ (by decide), si_nj _ _ _ (by decide), si_nc _ _ _ (by decide), h11, nI_1]
      refine m2_putI hB dX7_readThing_116 fl_X7_43 sh_kE rfl ?_
      refine m2_iconst hB dX7_readThing_119 (v := 1) (by decide) ?_
      refine m2_zret h dX7_readThing_120 (Or.inr rfl) (Or.inr (Or.inl ⟨d1, nm0, rfl, ?_⟩))
      refine ⟨(((hT.siD (Or.inl rfl)).siE ⟨by decide, by decide, by decide, by decide⟩).siE ⟨by decide, by decide, by decide, by decide⟩).siE ⟨by decide, by decide, by decide, by decide⟩, ((hW.emit _).siE ⟨by decide, by decide⟩).siE ⟨by decide, by decide⟩, si_at _ _ _ _, ?_, ?_, by omega⟩
      · rw [si_nj _ _ _ (by decide), si_at]; rfl
      · rw [List.length_append]
        show o.length + 1 + ws.length ≤ a + 1
        omega
