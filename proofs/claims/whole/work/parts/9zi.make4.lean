/-! making: rules by kind, what the tables say of the constructors, Kept -/
section M3S
variable {κ : Nat → List Value → List Value → List m3C → Prop} {cc : ByteArray} {own nm : String} {nL d mt ss pc : Nat} {ls st : List Value} {μ μ' : List m3C}
theorem m3_to (e : μ = μ') (k : κ pc ls st μ') : κ pc ls st μ := by
  subst e
  exact k
theorem m3_newI (h : m3_B κ cc own nm nL d mt ss) {N c1 : Nat} {n : Int32} (hs : μ.length = c1 ∧ c1 + 1 ≤ mt ∧ m3_sl μ + N ≤ ss ∧ c1 < 1000) (hn : ¬ n < 0 ∧ n.toNatClampNeg = N ∧ N ≤ 1000) (hd : decode cc pc = .ok (.newarray .int, 2)) (k : κ (pc + 2) ls (.ref c1 :: st) (μ ++ [(3, N, [])])) : κ pc ls (.int n :: st) μ := by
  obtain ⟨rfl, h1, h2, h3⟩ := hs
  exact m3_newa h (ty := .int) (t := 2) rfl (fun _ => rfl) (fun _ _ q => q) (m2_at 194 (by decide +kernel) rfl) (fun _ _ => rfl) hn.1 hn.2.1 (by show N * 4 ≤ _; omega) h1 h2 h3 hd k
theorem m3_newJ (h : m3_B κ cc own nm nL d mt ss) {N c1 : Nat} {n : Int32} (hs : μ.length = c1 ∧ c1 + 1 ≤ mt ∧ m3_sl μ + N ≤ ss ∧ c1 < 1000) (hn : ¬ n < 0 ∧ n.toNatClampNeg = N ∧ N ≤ 1000) (hd : decode cc pc = .ok (.newarray .long, 2)) (k : κ (pc + 2) ls (.ref c1 :: st) (μ ++ [(4, N, [])])) : κ pc ls (.int n :: st) μ := by
  obtain ⟨rfl, h1, h2, h3⟩ := hs
  exact m3_newa h (ty := .long) (t := 3) rfl (fun _ => rfl) (fun _ _ q => q) (m2_at 193 (by decide +kernel) rfl) (fun _ _ => rfl) hn.1 hn.2.1 (by show N * 8 ≤ _; omega) h1 h2 h3 hd k
theorem m3_newZ (h : m3_B κ cc own nm nL d mt ss) {N c1 : Nat} {n : Int32} (hs : μ.length = c1 ∧ c1 + 1 ≤ mt ∧ m3_sl μ + N ≤ ss ∧ c1 < 1000) (hn : ¬ n < 0 ∧ n.toNatClampNeg = N ∧ N ≤ 1000) (hd : decode cc pc = .ok (.newarray .boolean, 2)) (k : κ (pc + 2) ls (.ref c1 :: st) (μ ++ [(5, N, [])])) : κ pc ls (.int n :: st) μ := by
  obtain ⟨rfl, h1, h2, h3⟩ := hs
  exact m3_newa h (ty := .boolean) (t := 4) rfl (fun _ => rfl) (fun _ _ q => q) (m2_at 195 (by decide +kernel) rfl) (fun _ _ => rfl) hn.1 hn.2.1 (by show N * 1 ≤ _; omega) h1 h2 h3 hd k
theorem m3_newC (h : m3_B κ cc own nm nL d mt ss) {N c1 : Nat} {n : Int32} (hs : μ.length = c1 ∧ c1 + 1 ≤ mt ∧ m3_sl μ + N ≤ ss ∧ c1 < 1000) (hn : ¬ n < 0 ∧ n.toNatClampNeg = N ∧ N ≤ 1000) (hd : decode cc pc = .ok (.newarray .char, 2)) (k : κ (pc + 2) ls (.ref c1 :: st) (μ ++ [(2, N, [])])) : κ pc ls (.int n :: st) μ := by
  obtain ⟨rfl, h1, h2, h3⟩ := hs
  exact m3_newa h (ty := .char) (t := 1) rfl (fun _ => rfl) (fun _ _ q => q) (m2_at 192 (by decide +kernel) rfl) (fun _ _ => rfl) hn.1 hn.2.1 (by show N * 2 ≤ _; omega) h1 h2 h3 hd k
theorem m3_newB (h : m3_B κ cc own nm nL d mt ss) {N c1 : Nat} {n : Int32} (hs : μ.length = c1 ∧ c1 + 1 ≤ mt ∧ m3_sl μ + N ≤ ss ∧ c1 < 1000) (hn : ¬ n < 0 ∧ n.toNatClampNeg = N ∧ N ≤ 1000) (hd : decode cc pc = .ok (.newarray .byte, 2)) (k : κ (pc + 2) ls (.ref c1 :: st) (μ ++ [(1, N, [])])) : κ pc ls (.int n :: st) μ := by
  obtain ⟨rfl, h1, h2, h3⟩ := hs
  exact m3_newa h (ty := .byte) (t := 0) rfl (fun _ => rfl) (fun _ _ q => q) (m2_at 865 (by decide +kernel) rfl) (fun _ _ => rfl) hn.1 hn.2.1 (by show N * 1 ≤ _; omega) h1 h2 h3 hd k
theorem m3_newK (h : m3_B κ cc own nm nL d mt ss) {N c1 idx : Nat} {n : Int32} (hl0 : Cond.classLink own idx "ClosesAfterSeventh$Kept" ∈ m2_WS) (hs : μ.length = c1 ∧ c1 + 1 ≤ mt ∧ m3_sl μ + N ≤ ss ∧ c1 < 1000) (hn : ¬ n < 0 ∧ n.toNatClampNeg = N ∧ N ≤ 1000) (hd : decode cc pc = .ok (.anewarray idx, 3)) (k : κ (pc + 3) ls (.ref c1 :: st) (μ ++ [(6, N, List.replicate N (1, 0))])) : κ pc ls (.int n :: st) μ := by
  obtain ⟨rfl, h1, h2, h3⟩ := hs
  exact m3_anew h hl0 hn.1 hn.2.1 (by omega) h1 h2 h3 hd k
theorem m3_newO (h : m3_B κ cc own nm nL d mt ss) {C : String} {ci N idx c1 : Nat} {vs : List (Nat × Int32)} (hC : m3_CL C ci N vs) (hl0 : Cond.classLink own idx C ∈ m2_WS) (hs : μ.length = c1 ∧ c1 + 1 ≤ mt ∧ m3_sl μ + N ≤ ss ∧ c1 < 1000) (hd : decode cc pc = .ok (.new idx, 3)) (k : κ (pc + 3) ls (.ref c1 :: st) (μ ++ [(0, ci, vs)])) : κ pc ls st μ := by
  obtain ⟨rfl, h1, h2, h3⟩ := hs
  exact m3_new h hC hl0 h1 h2 h3 hd k
end M3S
theorem oi_obj : Cond.instanceMethod Lib.objectInit ∈ m2_WS := m2_at 122 (by decide +kernel) rfl
theorem oc_obj : Cond.code Lib.objectInit ⟨#[0xb1]⟩ 1 none ∈ m2_WS := m2_at 123 (by decide +kernel) rfl
theorem ol_X0_3 : Cond.methodLink RX0 3 Lib.objectInit ∈ m2_WS := m2_at 131 (by decide +kernel) rfl
theorem ol_X1_3 : Cond.methodLink RX1 3 Lib.objectInit ∈ m2_WS := m2_at 377 (by decide +kernel) rfl
theorem ol_X10_3 : Cond.methodLink RX10 3 Lib.objectInit ∈ m2_WS := m2_at 419 (by decide +kernel) rfl
theorem ol_X11_1 : Cond.methodLink RX11 1 Lib.objectInit ∈ m2_WS := m2_at 121 (by decide +kernel) rfl
theorem ol_X12_3 : Cond.methodLink RX12 3 Lib.objectInit ∈ m2_WS := m2_at 1465 (by decide +kernel) rfl
theorem ol_X2_3 : Cond.methodLink RX2 3 Lib.objectInit ∈ m2_WS := m2_at 262 (by decide +kernel) rfl
theorem ol_X3_3 : Cond.methodLink RX3 3 Lib.objectInit ∈ m2_WS := m2_at 464 (by decide +kernel) rfl
theorem ol_X4_3 : Cond.methodLink RX4 3 Lib.objectInit ∈ m2_WS := m2_at 458 (by decide +kernel) rfl
theorem ol_X5_3 : Cond.methodLink RX5 3 Lib.objectInit ∈ m2_WS := m2_at 575 (by decide +kernel) rfl
theorem ol_X6_3 : Cond.methodLink RX6 3 Lib.objectInit ∈ m2_WS := m2_at 201 (by decide +kernel) rfl
theorem ol_X7_1 : Cond.methodLink RX7 1 Lib.objectInit ∈ m2_WS := m2_at 293 (by decide +kernel) rfl
theorem ol_X8_3 : Cond.methodLink RX8 3 Lib.objectInit ∈ m2_WS := m2_at 346 (by decide +kernel) rfl
theorem ol_X9_3 : Cond.methodLink RX9 3 Lib.objectInit ∈ m2_WS := m2_at 546 (by decide +kernel) rfl
theorem cl_X11_30 : Cond.classLink RX11 30 RX3 ∈ m2_WS := m2_at 124 (by decide +kernel) rfl
theorem cl_X11_36 : Cond.classLink RX11 36 RX0 ∈ m2_WS := m2_at 126 (by decide +kernel) rfl
theorem cl_X11_43 : Cond.classLink RX11 43 RX6 ∈ m2_WS := m2_at 196 (by decide +kernel) rfl
theorem cl_X11_50 : Cond.classLink RX11 50 RX2 ∈ m2_WS := m2_at 257 (by decide +kernel) rfl
theorem cl_X11_59 : Cond.classLink RX11 59 RX7 ∈ m2_WS := m2_at 288 (by decide +kernel) rfl
theorem cl_X11_68 : Cond.classLink RX11 68 RX8 ∈ m2_WS := m2_at 341 (by decide +kernel) rfl
theorem cl_X11_77 : Cond.classLink RX11 77 RX1 ∈ m2_WS := m2_at 372 (by decide +kernel) rfl
theorem cl_X11_84 : Cond.classLink RX11 84 RX10 ∈ m2_WS := m2_at 414 (by decide +kernel) rfl
theorem cl_X11_93 : Cond.classLink RX11 93 RX4 ∈ m2_WS := m2_at 453 (by decide +kernel) rfl
theorem cl_X11_102 : Cond.classLink RX11 102 RX9 ∈ m2_WS := m2_at 541 (by decide +kernel) rfl
theorem cl_X11_111 : Cond.classLink RX11 111 RX5 ∈ m2_WS := m2_at 570 (by decide +kernel) rfl
theorem cl_X4_11 : Cond.classLink RX4 11 RX3 ∈ m2_WS := m2_at 459 (by decide +kernel) rfl
theorem cl_X9_15 : Cond.classLink RX9 15 "[[I" ∈ m2_WS := m2_at 547 (by decide +kernel) rfl
theorem cl_L_8 : Cond.classLink RL 8 RX11 ∈ m2_WS := m2_at 116 (by decide +kernel) rfl
theorem cl_L_23 : Cond.classLink RL 23 RX12 ∈ m2_WS := m2_at 1460 (by decide +kernel) rfl
abbrev dfX0 : List (Nat × Int32) := [(1, 0), (1, 0), (1, 0), (1, 0), (1, 0), (1, 0), (0, 0), (0, 0)]
theorem kl_X0 : m3_CL RX0 0 8 dfX0 := ⟨TX0, tyX0, rfl, iwX0, tyX0_ok, m2_at 127 (by decide +kernel) rfl, m2_at 91 (by decide +kernel) rfl, rfl, fun ad j hj => by
  have hj : j < 8 := hj
  match j, hj with
  | 0, _ => rfl
  | 1, _ => rfl
  | 2, _ => rfl
  | 3, _ => rfl
  | 4, _ => rfl
  | 5, _ => rfl
  | 6, _ => rfl
  | 7, _ => rfl
  | j + 8, hj => exact absurd hj (by omega)⟩
abbrev dfX1 : List (Nat × Int32) := [(1, 0), (1, 0), (1, 0), (1, 0), (1, 0), (1, 0), (0, 0), (0, 0), (1, 0), (1, 0), (0, 0)]
theorem kl_X1 : m3_CL RX1 1 11 dfX1 := ⟨TX1, tyX1, rfl, iwX1, tyX1_ok, m2_at 373 (by decide +kernel) rfl, m2_at 96 (by decide +kernel) rfl, rfl, fun ad j hj => by
  have hj : j < 11 := hj
  match j, hj with
  | 0, _ => rfl
  | 1, _ => rfl
  | 2, _ => rfl
  | 3, _ => rfl
  | 4, _ => rfl
  | 5, _ => rfl
  | 6, _ => rfl
  | 7, _ => rfl
  | 8, _ => rfl
  | 9, _ => rfl
  | 10, _ => rfl
  | j + 11, hj => exact absurd hj (by omega)⟩
abbrev dfX2 : List (Nat × Int32) := [(1, 0), (1, 0), (1, 0), (0, 0), (0, 0), (0, 0), (0, 0), (0, 0)]
theorem kl_X2 : m3_CL RX2 2 8 dfX2 := ⟨TX2, tyX2, rfl, iwX2, tyX2_ok, m2_at 258 (by decide +kernel) rfl, m2_at 93 (by decide +kernel) rfl, rfl, fun ad j hj => by
  have hj : j < 8 := hj
  match j, hj with
  | 0, _ => rfl
  | 1, _ => rfl
  | 2, _ => rfl
  | 3, _ => rfl
  | 4, _ => rfl
  | 5, _ => rfl
  | 6, _ => rfl
  | 7, _ => rfl
  | j + 8, hj => exact absurd hj (by omega)⟩
abbrev dfX3 : List (Nat × Int32) := [(1, 0), (1, 0), (1, 0), (1, 0), (0, 0), (0, 0), (0, 0), (0, 0)]
theorem kl_X3 : m3_CL RX3 3 8 dfX3 := ⟨TX3, tyX3, rfl, iwX3, tyX3_ok, m2_at 460 (by decide +kernel) rfl, m2_at 99 (by decide +kernel) rfl, rfl, fun ad j hj => by
  have hj : j < 8 := hj
  match j, hj with
  | 0, _ => rfl
  | 1, _ => rfl
  | 2, _ => rfl
  | 3, _ => rfl
  | 4, _ => rfl
  | 5, _ => rfl
  | 6, _ => rfl
  | 7, _ => rfl
  | j + 8, hj => exact absurd hj (by omega)⟩
abbrev dfX4 : List (Nat × Int32) := [(1, 0), (1, 0), (1, 0), (1, 0), (1, 0), (1, 0), (1, 0), (0, 0), (0, 0), (0, 0), (0, 0), (0, 0), (0, 0), (1, 0), (0, 0)]
theorem kl_X4 : m3_CL RX4 4 15 dfX4 := ⟨TX4, tyX4, rfl, iwX4, tyX4_ok, m2_at 454 (by decide +kernel) rfl, m2_at 98 (by decide +kernel) rfl, rfl, fun ad j hj => by
  have hj : j < 15 := hj
  match j, hj with
  | 0, _ => rfl
  | 1, _ => rfl
  | 2, _ => rfl
  | 3, _ => rfl
  | 4, _ => rfl
  | 5, _ => rfl
  | 6, _ => rfl
  | 7, _ => rfl
  | 8, _ => rfl
  | 9, _ => rfl
  | 10, _ => rfl
  | 11, _ => rfl
  | 12, _ => rfl
  | 13, _ => rfl
  | 14, _ => rfl
  | j + 15, hj => exact absurd hj (by omega)⟩
abbrev dfX5 : List (Nat × Int32) := [(1, 0), (1, 0), (1, 0), (1, 0), (1, 0), (0, 0), (1, 0), (0, 0), (0, 0), (0, 0), (0, 0), (0, 0), (0, 0), (0, 0)]
theorem kl_X5 : m3_CL RX5 5 14 dfX5 := ⟨TX5, tyX5, rfl, iwX5, tyX5_ok, m2_at 571 (by decide +kernel) rfl, m2_at 101 (by decide +kernel) rfl, rfl, fun ad j hj => by
  have hj : j < 14 := hj
  match j, hj with
  | 0, _ => rfl
  | 1, _ => rfl
  | 2, _ => rfl
  | 3, _ => rfl
  | 4, _ => rfl
  | 5, _ => rfl
  | 6, _ => rfl
  | 7, _ => rfl
  | 8, _ => rfl
  | 9, _ => rfl
  | 10, _ => rfl
  | 11, _ => rfl
  | 12, _ => rfl
  | 13, _ => rfl
  | j + 14, hj => exact absurd hj (by omega)⟩
abbrev dfX6 : List (Nat × Int32) := [(1, 0), (1, 0), (1, 0), (1, 0), (1, 0), (1, 0), (1, 0), (1, 0), (0, 0)]
theorem kl_X6 : m3_CL RX6 6 9 dfX6 := ⟨TX6, tyX6, rfl, iwX6, tyX6_ok, m2_at 197 (by decide +kernel) rfl, m2_at 92 (by decide +kernel) rfl, rfl, fun ad j hj => by
  have hj : j < 9 := hj
  match j, hj with
  | 0, _ => rfl
  | 1, _ => rfl
  | 2, _ => rfl
  | 3, _ => rfl
  | 4, _ => rfl
  | 5, _ => rfl
  | 6, _ => rfl
  | 7, _ => rfl
  | 8, _ => rfl
  | j + 9, hj => exact absurd hj (by omega)⟩
abbrev dfX7 : List (Nat × Int32) := [(1, 0), (1, 0), (0, 0), (0, 0), (1, 0), (0, 0), (1, 0), (0, 0), (1, 0), (0, 0), (0, 0), (0, 0), (0, 0), (1, 0), (1, 0)]
theorem kl_X7 : m3_CL RX7 7 15 dfX7 := ⟨TX7, tyX7, rfl, iwX7, tyX7_ok, m2_at 289 (by decide +kernel) rfl, m2_at 94 (by decide +kernel) rfl, rfl, fun ad j hj => by
  have hj : j < 15 := hj
  match j, hj with
  | 0, _ => rfl
  | 1, _ => rfl
  | 2, _ => rfl
  | 3, _ => rfl
  | 4, _ => rfl
  | 5, _ => rfl
  | 6, _ => rfl
  | 7, _ => rfl
  | 8, _ => rfl
  | 9, _ => rfl
  | 10, _ => rfl
  | 11, _ => rfl
  | 12, _ => rfl
  | 13, _ => rfl
  | 14, _ => rfl
  | j + 15, hj => exact absurd hj (by omega)⟩
abbrev dfX8 : List (Nat × Int32) := [(1, 0), (1, 0), (1, 0), (1, 0), (1, 0)]
theorem kl_X8 : m3_CL RX8 8 5 dfX8 := ⟨TX8, tyX8, rfl, iwX8, tyX8_ok, m2_at 342 (by decide +kernel) rfl, m2_at 95 (by decide +kernel) rfl, rfl, fun ad j hj => by
  have hj : j < 5 := hj
  match j, hj with
  | 0, _ => rfl
  | 1, _ => rfl
  | 2, _ => rfl
  | 3, _ => rfl
  | 4, _ => rfl
  | j + 5, hj => exact absurd hj (by omega)⟩
abbrev dfX9 : List (Nat × Int32) := [(1, 0), (1, 0), (1, 0), (1, 0), (1, 0), (0, 0)]
theorem kl_X9 : m3_CL RX9 9 6 dfX9 := ⟨TX9, tyX9, rfl, iwX9, tyX9_ok, m2_at 542 (by decide +kernel) rfl, m2_at 100 (by decide +kernel) rfl, rfl, fun ad j hj => by
  have hj : j < 6 := hj
  match j, hj with
  | 0, _ => rfl
  | 1, _ => rfl
  | 2, _ => rfl
  | 3, _ => rfl
  | 4, _ => rfl
  | 5, _ => rfl
  | j + 6, hj => exact absurd hj (by omega)⟩
abbrev dfX10 : List (Nat × Int32) := [(1, 0), (1, 0), (1, 0), (1, 0), (1, 0), (1, 0), (0, 0), (0, 0), (0, 0)]
theorem kl_X10 : m3_CL RX10 10 9 dfX10 := ⟨TX10, tyX10, rfl, iwX10, tyX10_ok, m2_at 415 (by decide +kernel) rfl, m2_at 97 (by decide +kernel) rfl, rfl, fun ad j hj => by
  have hj : j < 9 := hj
  match j, hj with
  | 0, _ => rfl
  | 1, _ => rfl
  | 2, _ => rfl
  | 3, _ => rfl
  | 4, _ => rfl
  | 5, _ => rfl
  | 6, _ => rfl
  | 7, _ => rfl
  | 8, _ => rfl
  | j + 9, hj => exact absurd hj (by omega)⟩
abbrev dfX11 : List (Nat × Int32) := [(1, 0), (0, 0), (1, 0), (0, 0), (1, 0), (1, 0), (1, 0), (0, 0), (1, 0), (1, 0), (1, 0), (1, 0), (1, 0), (1, 0), (1, 0), (1, 0), (1, 0), (1, 0), (1, 0), (1, 0)]
theorem kl_X11 : m3_CL RX11 11 20 dfX11 := ⟨TX11, tyX11, rfl, iwX11, tyX11_ok, m2_at 117 (by decide +kernel) rfl, m2_at 90 (by decide +kernel) rfl, rfl, fun ad j hj => by
  have hj : j < 20 := hj
  match j, hj with
  | 0, _ => rfl
  | 1, _ => rfl
  | 2, _ => rfl
  | 3, _ => rfl
  | 4, _ => rfl
  | 5, _ => rfl
  | 6, _ => rfl
  | 7, _ => rfl
  | 8, _ => rfl
  | 9, _ => rfl
  | 10, _ => rfl
  | 11, _ => rfl
  | 12, _ => rfl
  | 13, _ => rfl
  | 14, _ => rfl
  | 15, _ => rfl
  | 16, _ => rfl
  | 17, _ => rfl
  | 18, _ => rfl
  | 19, _ => rfl
  | j + 20, hj => exact absurd hj (by omega)⟩
abbrev dfX12 : List (Nat × Int32) := [(0, 0), (1, 0), (1, 0), (1, 0), (1, 0), (1, 0), (1, 0), (0, 0), (1, 0), (1, 0), (1, 0), (1, 0), (1, 0), (1, 0), (1, 0), (1, 0), (0, 0), (0, 0), (1, 0), (0, 0), (1, 0), (0, 0), (0, 0), (1, 0), (0, 0), (0, 0), (0, 0), (0, 0), (1, 0), (0, 0), (0, 0), (0, 0), (1, 0), (1, 0), (1, 0), (1, 0), (1, 0), (0, 0), (1, 0), (1, 0), (1, 0), (1, 0), (0, 0), (0, 0), (0, 0), (0, 0), (1, 0), (1, 0), (0, 0), (0, 0), (1, 0), (1, 0), (0, 0), (1, 0), (1, 0), (1, 0), (1, 0), (0, 0), (0, 0), (0, 0), (0, 0), (0, 0), (0, 0), (1, 0), (0, 0), (1, 0), (1, 0), (1, 0), (1, 0), (1, 0), (1, 0)]
theorem kl_X12 : m3_CL RX12 12 71 dfX12 := ⟨TX12, tyX12, rfl, iwX12, tyX12_ok, m2_at 1461 (by decide +kernel) rfl, m2_at 102 (by decide +kernel) rfl, rfl, fun ad j hj => by
  have hj : j < 71 := hj
  match j, hj with
  | 0, _ => rfl
  | 1, _ => rfl
  | 2, _ => rfl
  | 3, _ => rfl
  | 4, _ => rfl
  | 5, _ => rfl
  | 6, _ => rfl
  | 7, _ => rfl
  | 8, _ => rfl
  | 9, _ => rfl
  | 10, _ => rfl
  | 11, _ => rfl
  | 12, _ => rfl
  | 13, _ => rfl
  | 14, _ => rfl
  | 15, _ => rfl
  | 16, _ => rfl
  | 17, _ => rfl
  | 18, _ => rfl
  | 19, _ => rfl
  | 20, _ => rfl
  | 21, _ => rfl
  | 22, _ => rfl
  | 23, _ => rfl
  | 24, _ => rfl
  | 25, _ => rfl
  | 26, _ => rfl
  | 27, _ => rfl
  | 28, _ => rfl
  | 29, _ => rfl
  | 30, _ => rfl
  | 31, _ => rfl
  | 32, _ => rfl
  | 33, _ => rfl
  | 34, _ => rfl
  | 35, _ => rfl
  | 36, _ => rfl
  | 37, _ => rfl
  | 38, _ => rfl
  | 39, _ => rfl
  | 40, _ => rfl
  | 41, _ => rfl
  | 42, _ => rfl
  | 43, _ => rfl
  | 44, _ => rfl
  | 45, _ => rfl
  | 46, _ => rfl
  | 47, _ => rfl
  | 48, _ => rfl
  | 49, _ => rfl
  | 50, _ => rfl
  | 51, _ => rfl
  | 52, _ => rfl
  | 53, _ => rfl
  | 54, _ => rfl
  | 55, _ => rfl
  | 56, _ => rfl
  | 57, _ => rfl
  | 58, _ => rfl
  | 59, _ => rfl
  | 60, _ => rfl
  | 61, _ => rfl
  | 62, _ => rfl
  | 63, _ => rfl
  | 64, _ => rfl
  | 65, _ => rfl
  | 66, _ => rfl
  | 67, _ => rfl
  | 68, _ => rfl
  | 69, _ => rfl
  | 70, _ => rfl
  | j + 71, hj => exact absurd hj (by omega)⟩
theorem ji_L_22 : m3_LI RL 22 yX11_init cX11_init 2 0 := ⟨m2_at 118 (by decide +kernel) rfl, m2_at 119 (by decide +kernel) rfl, m2_at 90 (by decide +kernel) rfl, cw_X11_init, rfl, by decide +kernel, by decide⟩
theorem ji_L_25 : m3_LI RL 25 yX12_init cX12_init 1 0 := ⟨m2_at 1462 (by decide +kernel) rfl, m2_at 1463 (by decide +kernel) rfl, m2_at 102 (by decide +kernel) rfl, cw_X12_init, rfl, by decide +kernel, by decide⟩
theorem ji_X11_52 : m3_LI RX11 52 yX2_init cX2_init 4 3 := ⟨m2_at 259 (by decide +kernel) rfl, m2_at 260 (by decide +kernel) rfl, m2_at 93 (by decide +kernel) rfl, cw_X2_init, rfl, by decide +kernel, by decide⟩
theorem ji_X11_61 : m3_LI RX11 61 yX7_init cX7_init 2 1 := ⟨m2_at 290 (by decide +kernel) rfl, m2_at 291 (by decide +kernel) rfl, m2_at 94 (by decide +kernel) rfl, cw_X7_init, rfl, by decide +kernel, by decide⟩
theorem ji_X11_70 : m3_LI RX11 70 yX8_init cX8_init 2 1 := ⟨m2_at 343 (by decide +kernel) rfl, m2_at 344 (by decide +kernel) rfl, m2_at 95 (by decide +kernel) rfl, cw_X8_init, rfl, by decide +kernel, by decide⟩
theorem ji_X11_86 : m3_LI RX11 86 yX10_init cX10_init 5 4 := ⟨m2_at 416 (by decide +kernel) rfl, m2_at 417 (by decide +kernel) rfl, m2_at 97 (by decide +kernel) rfl, cw_X10_init, rfl, by decide +kernel, by decide⟩
theorem ji_X11_95 : m3_LI RX11 95 yX4_init cX4_init 5 3 := ⟨m2_at 455 (by decide +kernel) rfl, m2_at 456 (by decide +kernel) rfl, m2_at 98 (by decide +kernel) rfl, cw_X4_init, rfl, by decide +kernel, by decide⟩
theorem ji_X11_104 : m3_LI RX11 104 yX9_init cX9_init 2 1 := ⟨m2_at 543 (by decide +kernel) rfl, m2_at 544 (by decide +kernel) rfl, m2_at 100 (by decide +kernel) rfl, cw_X9_init, rfl, by decide +kernel, by decide⟩
theorem ji_X11_113 : m3_LI RX11 113 yX5_init cX5_init 3 2 := ⟨m2_at 572 (by decide +kernel) rfl, m2_at 573 (by decide +kernel) rfl, m2_at 101 (by decide +kernel) rfl, cw_X5_init, rfl, by decide +kernel, by decide⟩
theorem jn_X11_38 : m3_LN RX11 38 yX0_init cX0_init 1 0 := ⟨"ClosesAfterSeventh", m2_nat 128 (by decide +kernel), m2_at 129 (by decide +kernel) rfl, m2_at 91 (by decide +kernel) rfl, cw_X0_init, rfl, by decide +kernel, by decide⟩
theorem jn_X11_45 : m3_LN RX11 45 yX6_init cX6_init 1 0 := ⟨"ClosesAfterSeventh", m2_nat 198 (by decide +kernel), m2_at 199 (by decide +kernel) rfl, m2_at 92 (by decide +kernel) rfl, cw_X6_init, rfl, by decide +kernel, by decide⟩
theorem jn_X11_79 : m3_LN RX11 79 yX1_init cX1_init 1 0 := ⟨"ClosesAfterSeventh", m2_nat 374 (by decide +kernel), m2_at 375 (by decide +kernel) rfl, m2_at 96 (by decide +kernel) rfl, cw_X1_init, rfl, by decide +kernel, by decide⟩
theorem jn_X11_120 : m3_LN RX11 120 yX3_init cX3_init 1 0 := ⟨"ClosesAfterSeventh", m2_nat 623 (by decide +kernel), m2_at 462 (by decide +kernel) rfl, m2_at 99 (by decide +kernel) rfl, cw_X3_init, rfl, by decide +kernel, by decide⟩
theorem jn_X4_42 : m3_LN RX4 42 yX3_init cX3_init 1 0 := ⟨"ClosesAfterSeventh", m2_nat 461 (by decide +kernel), m2_at 462 (by decide +kernel) rfl, m2_at 99 (by decide +kernel) rfl, cw_X3_init, rfl, by decide +kernel, by decide⟩
theorem dX3_init_0 : decode cX3_init 0 = .ok (.aload_n 0, 1) := by decide +kernel
theorem dX3_init_1 : decode cX3_init 1 = .ok (.invokespecial 3, 3) := by decide +kernel
theorem dX3_init_4 : decode cX3_init 4 = .ok (.aload_n 0, 1) := by decide +kernel
theorem dX3_init_5 : decode cX3_init 5 = .ok (.bipush 20, 2) := by decide +kernel
theorem dX3_init_7 : decode cX3_init 7 = .ok (.newarray .int, 2) := by decide +kernel
theorem dX3_init_9 : decode cX3_init 9 = .ok (.putfield 9, 3) := by decide +kernel
theorem dX3_init_12 : decode cX3_init 12 = .ok (.aload_n 0, 1) := by decide +kernel
theorem dX3_init_13 : decode cX3_init 13 = .ok (.bipush 8, 2) := by decide +kernel
theorem dX3_init_15 : decode cX3_init 15 = .ok (.newarray .int, 2) := by decide +kernel
theorem dX3_init_17 : decode cX3_init 17 = .ok (.putfield 15, 3) := by decide +kernel
theorem dX3_init_20 : decode cX3_init 20 = .ok (.aload_n 0, 1) := by decide +kernel
theorem dX3_init_21 : decode cX3_init 21 = .ok (.bipush 8, 2) := by decide +kernel
theorem dX3_init_23 : decode cX3_init 23 = .ok (.newarray .boolean, 2) := by decide +kernel
theorem dX3_init_25 : decode cX3_init 25 = .ok (.putfield 18, 3) := by decide +kernel
theorem dX3_init_28 : decode cX3_init 28 = .ok (.aload_n 0, 1) := by decide +kernel
theorem dX3_init_29 : decode cX3_init 29 = .ok (.bipush 8, 2) := by decide +kernel
theorem dX3_init_31 : decode cX3_init 31 = .ok (.newarray .boolean, 2) := by decide +kernel
theorem dX3_init_33 : decode cX3_init 33 = .ok (.putfield 22, 3) := by decide +kernel
theorem dX3_init_36 : decode cX3_init 36 = .ok (.return_, 1) := by decide +kernel
/-- a new Kept, made at cell n -/
abbrev m3_kpt (n : Nat) : List m3C := [(0, 3, [(n + 3, 0), (n + 4, 0), (n + 5, 0), (n + 6, 0), (0, 0), (0, 0), (0, 0), (0, 0)]), (3, 20, []), (3, 8, []), (5, 8, []), (5, 8, [])]
theorem K_X3 {d n : Nat} {w0 : List m3C} (hn : w0.length = n) (hl : n < 900) : m3_MT (d + 1) yX3_init cX3_init 1 [.ref n] (w0 ++ [(0, 3, dfX3)]) (w0 ++ m3_kpt n) := by
  subst hn
  refine m3_MT.intro (ls := [.ref w0.length]) (by decide) rfl rfl (Nat.le_refl 1) (fun κ h => ?_)
  have hB := h.b
  have hm : (w0 ++ m3_kpt w0.length).length = w0.length + 5 := by simp
  have hs : m3_sl (w0 ++ m3_kpt w0.length) = m3_sl w0 + 52 := by simp [m3_sl, m3_n]
  rw [hm, hs] at hB
  have h1 : ∀ l : List m3C, (w0 ++ l).length = w0.length + l.length := fun l => List.length_append
  have h2 : ∀ l : List m3C, m3_sl (w0 ++ l) = m3_sl w0 + m3_sl l := fun l => by simp [m3_sl]
  have h3 : ∀ (l : List m3C) (q : m3C), (w0 ++ l).set w0.length q = w0 ++ l.set 0 q := fun l q => by rw [List.set_append_right _ _ (Nat.le_refl _), Nat.sub_self]
  have h4 : ∀ l : List m3C, (w0 ++ l)[w0.length]? = l[0]? := fun l => by rw [List.getElem?_append_right (Nat.le_refl _), Nat.sub_self]
  refine m3_aload_n hB dX3_init_0 rfl ?_
  refine m3_objInit hB ol_X3_3 oi_obj oc_obj (by decide) dX3_init_1 ?_
  refine m3_aload_n hB dX3_init_4 rfl ?_
  refine m3_bipush hB dX3_init_5 (v := 20) (by decide) ?_
  refine m3_newI hB (N := 20) (c1 := w0.length + 1) ⟨h1 _, by omega, by rw [h2]; show m3_sl w0 + 8 + 20 ≤ _; omega, by omega⟩ (by decide) dX3_init_7 ?_
  refine m3_to (μ' := w0 ++ [(0, 3, [(1, 0), (1, 0), (1, 0), (1, 0), (0, 0), (0, 0), (0, 0), (0, 0)]), (3, 20, [])]) (by rw [List.append_assoc]; rfl) ?_
  refine m3_putF hB (c0 := w0.length) (vs := [(1, 0), (1, 0), (1, 0), (1, 0), (0, 0), (0, 0), (0, 0), (0, 0)]) dX3_init_9 fl_X3_9 (fun _ _ _ h => by cases h; rfl) (fun _ => ⟨rfl, rfl⟩) (h4 _) (by simp) (by rw [h1]; show w0.length + 2 ≤ 1000; omega) ?_
  refine m3_to (μ' := w0 ++ [(0, 3, [(w0.length + 3, 0), (1, 0), (1, 0), (1, 0), (0, 0), (0, 0), (0, 0), (0, 0)]), (3, 20, [])]) (h3 _ _) ?_
  refine m3_aload_n hB dX3_init_12 rfl ?_
  refine m3_bipush hB dX3_init_13 (v := 8) (by decide) ?_
  refine m3_newI hB (N := 8) (c1 := w0.length + 2) ⟨h1 _, by omega, by rw [h2]; show m3_sl w0 + 28 + 8 ≤ _; omega, by omega⟩ (by decide) dX3_init_15 ?_
  refine m3_to (μ' := w0 ++ [(0, 3, [(w0.length + 3, 0), (1, 0), (1, 0), (1, 0), (0, 0), (0, 0), (0, 0), (0, 0)]), (3, 20, []), (3, 8, [])]) (by rw [List.append_assoc]; rfl) ?_
  refine m3_putF hB (c0 := w0.length) (vs := [(w0.length + 3, 0), (1, 0), (1, 0), (1, 0), (0, 0), (0, 0), (0, 0), (0, 0)]) dX3_init_17 fl_X3_15 (fun _ _ _ h => by cases h; rfl) (fun _ => ⟨rfl, rfl⟩) (h4 _) (by simp) (by rw [h1]; show w0.length + 3 ≤ 1000; omega) ?_
  refine m3_to (μ' := w0 ++ [(0, 3, [(w0.length + 3, 0), (w0.length + 4, 0), (1, 0), (1, 0), (0, 0), (0, 0), (0, 0), (0, 0)]), (3, 20, []), (3, 8, [])]) (h3 _ _) ?_
  refine m3_aload_n hB dX3_init_20 rfl ?_
  refine m3_bipush hB dX3_init_21 (v := 8) (by decide) ?_
  refine m3_newZ hB (N := 8) (c1 := w0.length + 3) ⟨h1 _, by omega, by rw [h2]; show m3_sl w0 + 36 + 8 ≤ _; omega, by omega⟩ (by decide) dX3_init_23 ?_
  refine m3_to (μ' := w0 ++ [(0, 3, [(w0.length + 3, 0), (w0.length + 4, 0), (1, 0), (1, 0), (0, 0), (0, 0), (0, 0), (0, 0)]), (3, 20, []), (3, 8, []), (5, 8, [])]) (by rw [List.append_assoc]; rfl) ?_
  refine m3_putF hB (c0 := w0.length) (vs := [(w0.length + 3, 0), (w0.length + 4, 0), (1, 0), (1, 0), (0, 0), (0, 0), (0, 0), (0, 0)]) dX3_init_25 fl_X3_18 (fun _ _ _ h => by cases h; rfl) (fun _ => ⟨rfl, rfl⟩) (h4 _) (by simp) (by rw [h1]; show w0.length + 4 ≤ 1000; omega) ?_
  refine m3_to (μ' := w0 ++ [(0, 3, [(w0.length + 3, 0), (w0.length + 4, 0), (w0.length + 5, 0), (1, 0), (0, 0), (0, 0), (0, 0), (0, 0)]), (3, 20, []), (3, 8, []), (5, 8, [])]) (h3 _ _) ?_
  refine m3_aload_n hB dX3_init_28 rfl ?_
  refine m3_bipush hB dX3_init_29 (v := 8) (by decide) ?_
  refine m3_newZ hB (N := 8) (c1 := w0.length + 4) ⟨h1 _, by omega, by rw [h2]; show m3_sl w0 + 44 + 8 ≤ _; omega, by omega⟩ (by decide) dX3_init_31 ?_
  refine m3_to (μ' := w0 ++ [(0, 3, [(w0.length + 3, 0), (w0.length + 4, 0), (w0.length + 5, 0), (1, 0), (0, 0), (0, 0), (0, 0), (0, 0)]), (3, 20, []), (3, 8, []), (5, 8, []), (5, 8, [])]) (by rw [List.append_assoc]; rfl) ?_
  refine m3_putF hB (c0 := w0.length) (vs := [(w0.length + 3, 0), (w0.length + 4, 0), (w0.length + 5, 0), (1, 0), (0, 0), (0, 0), (0, 0), (0, 0)]) dX3_init_33 fl_X3_22 (fun _ _ _ h => by cases h; rfl) (fun _ => ⟨rfl, rfl⟩) (h4 _) (by simp) (by rw [h1]; show w0.length + 5 ≤ 1000; omega) ?_
  refine m3_to (μ' := w0 ++ [(0, 3, [(w0.length + 3, 0), (w0.length + 4, 0), (w0.length + 5, 0), (w0.length + 6, 0), (0, 0), (0, 0), (0, 0), (0, 0)]), (3, 20, []), (3, 8, []), (5, 8, []), (5, 8, [])]) (h3 _ _) ?_
  exact m3_vret h dX3_init_36
