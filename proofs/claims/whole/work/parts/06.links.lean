theorem m2_at {w : Cond} (i : Nat) (h : lw_tbl[i]? = some w) (hg : goodWord w = true) : w ∈ m2_WS := m2_WS_in (List.mem_of_getElem? h) hg
theorem m2_nat {a b : String} {k : Nat} {x : MethodName} (i : Nat) (h : lw_tbl[i]? = some (.methodLinkNest a k x b)) : Cond.methodLinkNest a k x b ∈ m2_NW := List.mem_filter.mpr ⟨List.mem_of_getElem? h, rfl⟩
theorem iwX0 : ∀ w ∈ u_ws RX0 TX0 8, w ∈ m2_WS := by
  have h : u_ws RX0 TX0 8 = [175, 177, 179, 181, 183, 185, 187, 189].filterMap (fun i => lw_tbl[i]?) := by decide +kernel
  intro w hw
  rw [h] at hw
  obtain ⟨i, hi, hv⟩ := List.mem_filterMap.mp hw
  refine m2_at i hv ?_
  have hg : ([175, 177, 179, 181, 183, 185, 187, 189].filterMap (fun i => lw_tbl[i]?)).all goodWord = true := by decide +kernel
  exact List.all_eq_true.mp hg w (List.mem_filterMap.mpr ⟨i, hi, hv⟩)
theorem iwX1 : ∀ w ∈ u_ws RX1 TX1 11, w ∈ m2_WS := by
  have h : u_ws RX1 TX1 11 = [391, 393, 395, 397, 399, 401, 403, 405, 407, 409, 411].filterMap (fun i => lw_tbl[i]?) := by decide +kernel
  intro w hw
  rw [h] at hw
  obtain ⟨i, hi, hv⟩ := List.mem_filterMap.mp hw
  refine m2_at i hv ?_
  have hg : ([391, 393, 395, 397, 399, 401, 403, 405, 407, 409, 411].filterMap (fun i => lw_tbl[i]?)).all goodWord = true := by decide +kernel
  exact List.all_eq_true.mp hg w (List.mem_filterMap.mpr ⟨i, hi, hv⟩)
theorem iwX2 : ∀ w ∈ u_ws RX2 TX2 8, w ∈ m2_WS := by
  have h : u_ws RX2 TX2 8 = [271, 273, 275, 277, 279, 281, 283, 285].filterMap (fun i => lw_tbl[i]?) := by decide +kernel
  intro w hw
  rw [h] at hw
  obtain ⟨i, hi, hv⟩ := List.mem_filterMap.mp hw
  refine m2_at i hv ?_
  have hg : ([271, 273, 275, 277, 279, 281, 283, 285].filterMap (fun i => lw_tbl[i]?)).all goodWord = true := by decide +kernel
  exact List.all_eq_true.mp hg w (List.mem_filterMap.mpr ⟨i, hi, hv⟩)
theorem iwX3 : ∀ w ∈ u_ws RX3 TX3 8, w ∈ m2_WS := by
  have h : u_ws RX3 TX3 8 = [474, 476, 478, 480, 482, 484, 486, 488].filterMap (fun i => lw_tbl[i]?) := by decide +kernel
  intro w hw
  rw [h] at hw
  obtain ⟨i, hi, hv⟩ := List.mem_filterMap.mp hw
  refine m2_at i hv ?_
  have hg : ([474, 476, 478, 480, 482, 484, 486, 488].filterMap (fun i => lw_tbl[i]?)).all goodWord = true := by decide +kernel
  exact List.all_eq_true.mp hg w (List.mem_filterMap.mpr ⟨i, hi, hv⟩)
theorem iwX4 : ∀ w ∈ u_ws RX4 TX4 15, w ∈ m2_WS := by
  have h : u_ws RX4 TX4 15 = [510, 512, 514, 516, 518, 520, 522, 524, 526, 528, 530, 532, 534, 536, 538].filterMap (fun i => lw_tbl[i]?) := by decide +kernel
  intro w hw
  rw [h] at hw
  obtain ⟨i, hi, hv⟩ := List.mem_filterMap.mp hw
  refine m2_at i hv ?_
  have hg : ([510, 512, 514, 516, 518, 520, 522, 524, 526, 528, 530, 532, 534, 536, 538].filterMap (fun i => lw_tbl[i]?)).all goodWord = true := by decide +kernel
  exact List.all_eq_true.mp hg w (List.mem_filterMap.mpr ⟨i, hi, hv⟩)
theorem iwX5 : ∀ w ∈ u_ws RX5 TX5 14, w ∈ m2_WS := by
  have h : u_ws RX5 TX5 14 = [594, 596, 598, 600, 602, 604, 606, 608, 610, 612, 614, 616, 618, 620].filterMap (fun i => lw_tbl[i]?) := by decide +kernel
  intro w hw
  rw [h] at hw
  obtain ⟨i, hi, hv⟩ := List.mem_filterMap.mp hw
  refine m2_at i hv ?_
  have hg : ([594, 596, 598, 600, 602, 604, 606, 608, 610, 612, 614, 616, 618, 620].filterMap (fun i => lw_tbl[i]?)).all goodWord = true := by decide +kernel
  exact List.all_eq_true.mp hg w (List.mem_filterMap.mpr ⟨i, hi, hv⟩)
theorem iwX6 : ∀ w ∈ u_ws RX6 TX6 9, w ∈ m2_WS := by
  have h : u_ws RX6 TX6 9 = [238, 240, 242, 244, 246, 248, 250, 252, 254].filterMap (fun i => lw_tbl[i]?) := by decide +kernel
  intro w hw
  rw [h] at hw
  obtain ⟨i, hi, hv⟩ := List.mem_filterMap.mp hw
  refine m2_at i hv ?_
  have hg : ([238, 240, 242, 244, 246, 248, 250, 252, 254].filterMap (fun i => lw_tbl[i]?)).all goodWord = true := by decide +kernel
  exact List.all_eq_true.mp hg w (List.mem_filterMap.mpr ⟨i, hi, hv⟩)
theorem iwX7 : ∀ w ∈ u_ws RX7 TX7 15, w ∈ m2_WS := by
  have h : u_ws RX7 TX7 15 = [310, 312, 314, 316, 318, 320, 322, 324, 326, 328, 330, 332, 334, 336, 338].filterMap (fun i => lw_tbl[i]?) := by decide +kernel
  intro w hw
  rw [h] at hw
  obtain ⟨i, hi, hv⟩ := List.mem_filterMap.mp hw
  refine m2_at i hv ?_
  have hg : ([310, 312, 314, 316, 318, 320, 322, 324, 326, 328, 330, 332, 334, 336, 338].filterMap (fun i => lw_tbl[i]?)).all goodWord = true := by decide +kernel
  exact List.all_eq_true.mp hg w (List.mem_filterMap.mpr ⟨i, hi, hv⟩)
theorem iwX8 : ∀ w ∈ u_ws RX8 TX8 5, w ∈ m2_WS := by
  have h : u_ws RX8 TX8 5 = [361, 363, 365, 367, 369].filterMap (fun i => lw_tbl[i]?) := by decide +kernel
  intro w hw
  rw [h] at hw
  obtain ⟨i, hi, hv⟩ := List.mem_filterMap.mp hw
  refine m2_at i hv ?_
  have hg : ([361, 363, 365, 367, 369].filterMap (fun i => lw_tbl[i]?)).all goodWord = true := by decide +kernel
  exact List.all_eq_true.mp hg w (List.mem_filterMap.mpr ⟨i, hi, hv⟩)
theorem iwX9 : ∀ w ∈ u_ws RX9 TX9 6, w ∈ m2_WS := by
  have h : u_ws RX9 TX9 6 = [557, 559, 561, 563, 565, 567].filterMap (fun i => lw_tbl[i]?) := by decide +kernel
  intro w hw
  rw [h] at hw
  obtain ⟨i, hi, hv⟩ := List.mem_filterMap.mp hw
  refine m2_at i hv ?_
  have hg : ([557, 559, 561, 563, 565, 567].filterMap (fun i => lw_tbl[i]?)).all goodWord = true := by decide +kernel
  exact List.all_eq_true.mp hg w (List.mem_filterMap.mpr ⟨i, hi, hv⟩)
theorem iwX10 : ∀ w ∈ u_ws RX10 TX10 9, w ∈ m2_WS := by
  have h : u_ws RX10 TX10 9 = [434, 436, 438, 440, 442, 444, 446, 448, 450].filterMap (fun i => lw_tbl[i]?) := by decide +kernel
  intro w hw
  rw [h] at hw
  obtain ⟨i, hi, hv⟩ := List.mem_filterMap.mp hw
  refine m2_at i hv ?_
  have hg : ([434, 436, 438, 440, 442, 444, 446, 448, 450].filterMap (fun i => lw_tbl[i]?)).all goodWord = true := by decide +kernel
  exact List.all_eq_true.mp hg w (List.mem_filterMap.mpr ⟨i, hi, hv⟩)
theorem iwX11 : ∀ w ∈ u_ws RX11 TX11 20, w ∈ m2_WS := by
  have h : u_ws RX11 TX11 20 = [644, 646, 648, 650, 652, 654, 656, 658, 660, 662, 664, 666, 668, 670, 672, 674, 676, 678, 680, 682].filterMap (fun i => lw_tbl[i]?) := by decide +kernel
  intro w hw
  rw [h] at hw
  obtain ⟨i, hi, hv⟩ := List.mem_filterMap.mp hw
  refine m2_at i hv ?_
  have hg : ([644, 646, 648, 650, 652, 654, 656, 658, 660, 662, 664, 666, 668, 670, 672, 674, 676, 678, 680, 682].filterMap (fun i => lw_tbl[i]?)).all goodWord = true := by decide +kernel
  exact List.all_eq_true.mp hg w (List.mem_filterMap.mpr ⟨i, hi, hv⟩)
theorem iwX12 : ∀ w ∈ u_ws RX12 TX12 71, w ∈ m2_WS := by
  have h : u_ws RX12 TX12 71 = [1537, 1539, 1541, 1543, 1545, 1547, 1549, 1551, 1553, 1555, 1557, 1559, 1561, 1563, 1565, 1567, 1569, 1571, 1573, 1575, 1577, 1579, 1581, 1583, 1585, 1587, 1589, 1591, 1593, 1595, 1597, 1599, 1601, 1603, 1605, 1607, 1609, 1611, 1613, 1615, 1617, 1619, 1621, 1623, 1625, 1627, 1629, 1631, 1633, 1635, 1637, 1639, 1641, 1643, 1645, 1647, 1649, 1651, 1653, 1655, 1657, 1659, 1661, 1663, 1665, 1667, 1669, 1671, 1673, 1675, 1677].filterMap (fun i => lw_tbl[i]?) := by decide +kernel
  intro w hw
  rw [h] at hw
  obtain ⟨i, hi, hv⟩ := List.mem_filterMap.mp hw
  refine m2_at i hv ?_
  have hg : ([1537, 1539, 1541, 1543, 1545, 1547, 1549, 1551, 1553, 1555, 1557, 1559, 1561, 1563, 1565, 1567, 1569, 1571, 1573, 1575, 1577, 1579, 1581, 1583, 1585, 1587, 1589, 1591, 1593, 1595, 1597, 1599, 1601, 1603, 1605, 1607, 1609, 1611, 1613, 1615, 1617, 1619, 1621, 1623, 1625, 1627, 1629, 1631, 1633, 1635, 1637, 1639, 1641, 1643, 1645, 1647, 1649, 1651, 1653, 1655, 1657, 1659, 1661, 1663, 1665, 1667, 1669, 1671, 1673, 1675, 1677].filterMap (fun i => lw_tbl[i]?)).all goodWord = true := by decide +kernel
  exact List.all_eq_true.mp hg w (List.mem_filterMap.mpr ⟨i, hi, hv⟩)
theorem fl_X0_9 : m2_FL RX0 9 0 0 (tyX0 0) true := ⟨RX0, TX0, 8, tyX0, rfl, by decide, m2_at 132 (by decide +kernel) rfl, iwX0, tyX0_ok, nmX0, rfl, rfl⟩
theorem fl_X1_47 : m2_FL RX1 47 0 0 (tyX0 0) true := ⟨RX0, TX0, 8, tyX0, rfl, by decide, m2_at 133 (by decide +kernel) rfl, iwX0, tyX0_ok, nmX0, rfl, rfl⟩
theorem fl_X2_71 : m2_FL RX2 71 0 0 (tyX0 0) true := ⟨RX0, TX0, 8, tyX0, rfl, by decide, m2_at 134 (by decide +kernel) rfl, iwX0, tyX0_ok, nmX0, rfl, rfl⟩
theorem fl_X8_59 : m2_FL RX8 59 0 0 (tyX0 0) true := ⟨RX0, TX0, 8, tyX0, rfl, by decide, m2_at 135 (by decide +kernel) rfl, iwX0, tyX0_ok, nmX0, rfl, rfl⟩
theorem fl_X11_141 : m2_FL RX11 141 0 0 (tyX0 0) true := ⟨RX0, TX0, 8, tyX0, rfl, by decide, m2_at 136 (by decide +kernel) rfl, iwX0, tyX0_ok, nmX0, rfl, rfl⟩
theorem fl_X0_15 : m2_FL RX0 15 0 1 (tyX0 1) true := ⟨RX0, TX0, 8, tyX0, rfl, by decide, m2_at 137 (by decide +kernel) rfl, iwX0, tyX0_ok, nmX0, rfl, rfl⟩
theorem fl_X1_48 : m2_FL RX1 48 0 1 (tyX0 1) true := ⟨RX0, TX0, 8, tyX0, rfl, by decide, m2_at 138 (by decide +kernel) rfl, iwX0, tyX0_ok, nmX0, rfl, rfl⟩
theorem fl_X2_82 : m2_FL RX2 82 0 1 (tyX0 1) true := ⟨RX0, TX0, 8, tyX0, rfl, by decide, m2_at 139 (by decide +kernel) rfl, iwX0, tyX0_ok, nmX0, rfl, rfl⟩
theorem fl_X8_62 : m2_FL RX8 62 0 1 (tyX0 1) true := ⟨RX0, TX0, 8, tyX0, rfl, by decide, m2_at 140 (by decide +kernel) rfl, iwX0, tyX0_ok, nmX0, rfl, rfl⟩
theorem fl_X11_144 : m2_FL RX11 144 0 1 (tyX0 1) true := ⟨RX0, TX0, 8, tyX0, rfl, by decide, m2_at 141 (by decide +kernel) rfl, iwX0, tyX0_ok, nmX0, rfl, rfl⟩
theorem fl_X0_18 : m2_FL RX0 18 0 2 (tyX0 2) true := ⟨RX0, TX0, 8, tyX0, rfl, by decide, m2_at 142 (by decide +kernel) rfl, iwX0, tyX0_ok, nmX0, rfl, rfl⟩
theorem fl_X1_49 : m2_FL RX1 49 0 2 (tyX0 2) true := ⟨RX0, TX0, 8, tyX0, rfl, by decide, m2_at 143 (by decide +kernel) rfl, iwX0, tyX0_ok, nmX0, rfl, rfl⟩
theorem fl_X2_78 : m2_FL RX2 78 0 2 (tyX0 2) true := ⟨RX0, TX0, 8, tyX0, rfl, by decide, m2_at 144 (by decide +kernel) rfl, iwX0, tyX0_ok, nmX0, rfl, rfl⟩
theorem fl_X8_65 : m2_FL RX8 65 0 2 (tyX0 2) true := ⟨RX0, TX0, 8, tyX0, rfl, by decide, m2_at 145 (by decide +kernel) rfl, iwX0, tyX0_ok, nmX0, rfl, rfl⟩
theorem fl_X11_147 : m2_FL RX11 147 0 2 (tyX0 2) true := ⟨RX0, TX0, 8, tyX0, rfl, by decide, m2_at 146 (by decide +kernel) rfl, iwX0, tyX0_ok, nmX0, rfl, rfl⟩
theorem fl_X10_149 : m2_FL RX10 149 0 2 (tyX0 2) true := ⟨RX0, TX0, 8, tyX0, rfl, by decide, m2_at 147 (by decide +kernel) rfl, iwX0, tyX0_ok, nmX0, rfl, rfl⟩
theorem fl_X0_22 : m2_FL RX0 22 0 3 (tyX0 3) true := ⟨RX0, TX0, 8, tyX0, rfl, by decide, m2_at 148 (by decide +kernel) rfl, iwX0, tyX0_ok, nmX0, rfl, rfl⟩
theorem fl_X2_85 : m2_FL RX2 85 0 3 (tyX0 3) true := ⟨RX0, TX0, 8, tyX0, rfl, by decide, m2_at 149 (by decide +kernel) rfl, iwX0, tyX0_ok, nmX0, rfl, rfl⟩
theorem fl_X11_155 : m2_FL RX11 155 0 3 (tyX0 3) true := ⟨RX0, TX0, 8, tyX0, rfl, by decide, m2_at 150 (by decide +kernel) rfl, iwX0, tyX0_ok, nmX0, rfl, rfl⟩
theorem fl_X10_146 : m2_FL RX10 146 0 3 (tyX0 3) true := ⟨RX0, TX0, 8, tyX0, rfl, by decide, m2_at 151 (by decide +kernel) rfl, iwX0, tyX0_ok, nmX0, rfl, rfl⟩
theorem fl_X0_25 : m2_FL RX0 25 0 4 (tyX0 4) true := ⟨RX0, TX0, 8, tyX0, rfl, by decide, m2_at 152 (by decide +kernel) rfl, iwX0, tyX0_ok, nmX0, rfl, rfl⟩
theorem fl_X2_91 : m2_FL RX2 91 0 4 (tyX0 4) true := ⟨RX0, TX0, 8, tyX0, rfl, by decide, m2_at 153 (by decide +kernel) rfl, iwX0, tyX0_ok, nmX0, rfl, rfl⟩
theorem fl_X11_161 : m2_FL RX11 161 0 4 (tyX0 4) true := ⟨RX0, TX0, 8, tyX0, rfl, by decide, m2_at 154 (by decide +kernel) rfl, iwX0, tyX0_ok, nmX0, rfl, rfl⟩
theorem fl_X0_28 : m2_FL RX0 28 0 5 (tyX0 5) true := ⟨RX0, TX0, 8, tyX0, rfl, by decide, m2_at 155 (by decide +kernel) rfl, iwX0, tyX0_ok, nmX0, rfl, rfl⟩
theorem fl_X8_34 : m2_FL RX8 34 0 5 (tyX0 5) true := ⟨RX0, TX0, 8, tyX0, rfl, by decide, m2_at 156 (by decide +kernel) rfl, iwX0, tyX0_ok, nmX0, rfl, rfl⟩
theorem fl_X3_44 : m2_FL RX3 44 0 5 (tyX0 5) true := ⟨RX0, TX0, 8, tyX0, rfl, by decide, m2_at 157 (by decide +kernel) rfl, iwX0, tyX0_ok, nmX0, rfl, rfl⟩
theorem fl_X1_50 : m2_FL RX1 50 0 5 (tyX0 5) true := ⟨RX0, TX0, 8, tyX0, rfl, by decide, m2_at 158 (by decide +kernel) rfl, iwX0, tyX0_ok, nmX0, rfl, rfl⟩
theorem fl_X10_60 : m2_FL RX10 60 0 5 (tyX0 5) true := ⟨RX0, TX0, 8, tyX0, rfl, by decide, m2_at 159 (by decide +kernel) rfl, iwX0, tyX0_ok, nmX0, rfl, rfl⟩
theorem fl_X5_82 : m2_FL RX5 82 0 5 (tyX0 5) true := ⟨RX0, TX0, 8, tyX0, rfl, by decide, m2_at 160 (by decide +kernel) rfl, iwX0, tyX0_ok, nmX0, rfl, rfl⟩
theorem fl_X2_88 : m2_FL RX2 88 0 5 (tyX0 5) true := ⟨RX0, TX0, 8, tyX0, rfl, by decide, m2_at 161 (by decide +kernel) rfl, iwX0, tyX0_ok, nmX0, rfl, rfl⟩
theorem fl_X11_158 : m2_FL RX11 158 0 5 (tyX0 5) true := ⟨RX0, TX0, 8, tyX0, rfl, by decide, m2_at 162 (by decide +kernel) rfl, iwX0, tyX0_ok, nmX0, rfl, rfl⟩
theorem fl_X3_25 : m2_FL RX3 25 0 6 (.int) false := ⟨RX0, TX0, 8, tyX0, rfl, by decide, m2_at 163 (by decide +kernel) rfl, iwX0, tyX0_ok, nmX0, rfl, rfl⟩
theorem fl_X1_37 : m2_FL RX1 37 0 6 (.int) false := ⟨RX0, TX0, 8, tyX0, rfl, by decide, m2_at 164 (by decide +kernel) rfl, iwX0, tyX0_ok, nmX0, rfl, rfl⟩
theorem fl_X0_31 : m2_FL RX0 31 0 6 (.int) false := ⟨RX0, TX0, 8, tyX0, rfl, by decide, m2_at 165 (by decide +kernel) rfl, iwX0, tyX0_ok, nmX0, rfl, rfl⟩
theorem fl_X8_28 : m2_FL RX8 28 0 6 (.int) false := ⟨RX0, TX0, 8, tyX0, rfl, by decide, m2_at 166 (by decide +kernel) rfl, iwX0, tyX0_ok, nmX0, rfl, rfl⟩
theorem fl_X2_36 : m2_FL RX2 36 0 6 (.int) false := ⟨RX0, TX0, 8, tyX0, rfl, by decide, m2_at 167 (by decide +kernel) rfl, iwX0, tyX0_ok, nmX0, rfl, rfl⟩
theorem fl_X5_77 : m2_FL RX5 77 0 6 (.int) false := ⟨RX0, TX0, 8, tyX0, rfl, by decide, m2_at 168 (by decide +kernel) rfl, iwX0, tyX0_ok, nmX0, rfl, rfl⟩
theorem fl_X10_126 : m2_FL RX10 126 0 6 (.int) false := ⟨RX0, TX0, 8, tyX0, rfl, by decide, m2_at 169 (by decide +kernel) rfl, iwX0, tyX0_ok, nmX0, rfl, rfl⟩
theorem fl_X11_191 : m2_FL RX11 191 0 6 (.int) false := ⟨RX0, TX0, 8, tyX0, rfl, by decide, m2_at 170 (by decide +kernel) rfl, iwX0, tyX0_ok, nmX0, rfl, rfl⟩
theorem fl_X3_40 : m2_FL RX3 40 0 7 (.int) false := ⟨RX0, TX0, 8, tyX0, rfl, by decide, m2_at 171 (by decide +kernel) rfl, iwX0, tyX0_ok, nmX0, rfl, rfl⟩
theorem fl_X0_35 : m2_FL RX0 35 0 7 (.int) false := ⟨RX0, TX0, 8, tyX0, rfl, by decide, m2_at 172 (by decide +kernel) rfl, iwX0, tyX0_ok, nmX0, rfl, rfl⟩
theorem fl_X10_137 : m2_FL RX10 137 0 7 (.int) false := ⟨RX0, TX0, 8, tyX0, rfl, by decide, m2_at 173 (by decide +kernel) rfl, iwX0, tyX0_ok, nmX0, rfl, rfl⟩
theorem fl_X11_205 : m2_FL RX11 205 0 7 (.int) false := ⟨RX0, TX0, 8, tyX0, rfl, by decide, m2_at 174 (by decide +kernel) rfl, iwX0, tyX0_ok, nmX0, rfl, rfl⟩
theorem fl_X6_9 : m2_FL RX6 9 6 0 (tyX6 0) true := ⟨RX6, TX6, 9, tyX6, rfl, by decide, m2_at 202 (by decide +kernel) rfl, iwX6, tyX6_ok, nmX6, rfl, rfl⟩
theorem fl_X10_38 : m2_FL RX10 38 6 0 (tyX6 0) true := ⟨RX6, TX6, 9, tyX6, rfl, by decide, m2_at 203 (by decide +kernel) rfl, iwX6, tyX6_ok, nmX6, rfl, rfl⟩
theorem fl_X3_51 : m2_FL RX3 51 6 0 (tyX6 0) true := ⟨RX6, TX6, 9, tyX6, rfl, by decide, m2_at 204 (by decide +kernel) rfl, iwX6, tyX6_ok, nmX6, rfl, rfl⟩
theorem fl_X11_167 : m2_FL RX11 167 6 0 (tyX6 0) true := ⟨RX6, TX6, 9, tyX6, rfl, by decide, m2_at 205 (by decide +kernel) rfl, iwX6, tyX6_ok, nmX6, rfl, rfl⟩
theorem fl_X6_15 : m2_FL RX6 15 6 1 (tyX6 1) true := ⟨RX6, TX6, 9, tyX6, rfl, by decide, m2_at 206 (by decide +kernel) rfl, iwX6, tyX6_ok, nmX6, rfl, rfl⟩
theorem fl_X10_122 : m2_FL RX10 122 6 1 (tyX6 1) true := ⟨RX6, TX6, 9, tyX6, rfl, by decide, m2_at 207 (by decide +kernel) rfl, iwX6, tyX6_ok, nmX6, rfl, rfl⟩
theorem fl_X11_188 : m2_FL RX11 188 6 1 (tyX6 1) true := ⟨RX6, TX6, 9, tyX6, rfl, by decide, m2_at 208 (by decide +kernel) rfl, iwX6, tyX6_ok, nmX6, rfl, rfl⟩
theorem fl_X6_18 : m2_FL RX6 18 6 2 (tyX6 2) true := ⟨RX6, TX6, 9, tyX6, rfl, by decide, m2_at 209 (by decide +kernel) rfl, iwX6, tyX6_ok, nmX6, rfl, rfl⟩
theorem fl_X10_56 : m2_FL RX10 56 6 2 (tyX6 2) true := ⟨RX6, TX6, 9, tyX6, rfl, by decide, m2_at 210 (by decide +kernel) rfl, iwX6, tyX6_ok, nmX6, rfl, rfl⟩
theorem fl_X2_94 : m2_FL RX2 94 6 2 (tyX6 2) true := ⟨RX6, TX6, 9, tyX6, rfl, by decide, m2_at 211 (by decide +kernel) rfl, iwX6, tyX6_ok, nmX6, rfl, rfl⟩
theorem fl_X11_170 : m2_FL RX11 170 6 2 (tyX6 2) true := ⟨RX6, TX6, 9, tyX6, rfl, by decide, m2_at 212 (by decide +kernel) rfl, iwX6, tyX6_ok, nmX6, rfl, rfl⟩
theorem fl_X6_22 : m2_FL RX6 22 6 3 (tyX6 3) true := ⟨RX6, TX6, 9, tyX6, rfl, by decide, m2_at 213 (by decide +kernel) rfl, iwX6, tyX6_ok, nmX6, rfl, rfl⟩
theorem fl_X4_84 : m2_FL RX4 84 6 3 (tyX6 3) true := ⟨RX6, TX6, 9, tyX6, rfl, by decide, m2_at 214 (by decide +kernel) rfl, iwX6, tyX6_ok, nmX6, rfl, rfl⟩
theorem fl_X2_97 : m2_FL RX2 97 6 3 (tyX6 3) true := ⟨RX6, TX6, 9, tyX6, rfl, by decide, m2_at 215 (by decide +kernel) rfl, iwX6, tyX6_ok, nmX6, rfl, rfl⟩
theorem fl_X11_173 : m2_FL RX11 173 6 3 (tyX6 3) true := ⟨RX6, TX6, 9, tyX6, rfl, by decide, m2_at 216 (by decide +kernel) rfl, iwX6, tyX6_ok, nmX6, rfl, rfl⟩
theorem fl_X10_140 : m2_FL RX10 140 6 3 (tyX6 3) true := ⟨RX6, TX6, 9, tyX6, rfl, by decide, m2_at 217 (by decide +kernel) rfl, iwX6, tyX6_ok, nmX6, rfl, rfl⟩
theorem fl_X6_25 : m2_FL RX6 25 6 4 (tyX6 4) true := ⟨RX6, TX6, 9, tyX6, rfl, by decide, m2_at 218 (by decide +kernel) rfl, iwX6, tyX6_ok, nmX6, rfl, rfl⟩
theorem fl_X2_100 : m2_FL RX2 100 6 4 (tyX6 4) true := ⟨RX6, TX6, 9, tyX6, rfl, by decide, m2_at 219 (by decide +kernel) rfl, iwX6, tyX6_ok, nmX6, rfl, rfl⟩
theorem fl_X11_176 : m2_FL RX11 176 6 4 (tyX6 4) true := ⟨RX6, TX6, 9, tyX6, rfl, by decide, m2_at 220 (by decide +kernel) rfl, iwX6, tyX6_ok, nmX6, rfl, rfl⟩
theorem fl_X6_28 : m2_FL RX6 28 6 5 (tyX6 5) true := ⟨RX6, TX6, 9, tyX6, rfl, by decide, m2_at 221 (by decide +kernel) rfl, iwX6, tyX6_ok, nmX6, rfl, rfl⟩
theorem fl_X2_103 : m2_FL RX2 103 6 5 (tyX6 5) true := ⟨RX6, TX6, 9, tyX6, rfl, by decide, m2_at 222 (by decide +kernel) rfl, iwX6, tyX6_ok, nmX6, rfl, rfl⟩
theorem fl_X10_116 : m2_FL RX10 116 6 5 (tyX6 5) true := ⟨RX6, TX6, 9, tyX6, rfl, by decide, m2_at 223 (by decide +kernel) rfl, iwX6, tyX6_ok, nmX6, rfl, rfl⟩
theorem fl_X11_179 : m2_FL RX11 179 6 5 (tyX6 5) true := ⟨RX6, TX6, 9, tyX6, rfl, by decide, m2_at 224 (by decide +kernel) rfl, iwX6, tyX6_ok, nmX6, rfl, rfl⟩
theorem fl_X6_31 : m2_FL RX6 31 6 6 (tyX6 6) true := ⟨RX6, TX6, 9, tyX6, rfl, by decide, m2_at 225 (by decide +kernel) rfl, iwX6, tyX6_ok, nmX6, rfl, rfl⟩
theorem fl_X3_52 : m2_FL RX3 52 6 6 (tyX6 6) true := ⟨RX6, TX6, 9, tyX6, rfl, by decide, m2_at 226 (by decide +kernel) rfl, iwX6, tyX6_ok, nmX6, rfl, rfl⟩
theorem fl_X10_119 : m2_FL RX10 119 6 6 (tyX6 6) true := ⟨RX6, TX6, 9, tyX6, rfl, by decide, m2_at 227 (by decide +kernel) rfl, iwX6, tyX6_ok, nmX6, rfl, rfl⟩
theorem fl_X6_34 : m2_FL RX6 34 6 7 (tyX6 7) true := ⟨RX6, TX6, 9, tyX6, rfl, by decide, m2_at 228 (by decide +kernel) rfl, iwX6, tyX6_ok, nmX6, rfl, rfl⟩
theorem fl_X3_53 : m2_FL RX3 53 6 7 (tyX6 7) true := ⟨RX6, TX6, 9, tyX6, rfl, by decide, m2_at 229 (by decide +kernel) rfl, iwX6, tyX6_ok, nmX6, rfl, rfl⟩
theorem fl_X4_108 : m2_FL RX4 108 6 7 (tyX6 7) true := ⟨RX6, TX6, 9, tyX6, rfl, by decide, m2_at 230 (by decide +kernel) rfl, iwX6, tyX6_ok, nmX6, rfl, rfl⟩
theorem fl_X11_182 : m2_FL RX11 182 6 7 (tyX6 7) true := ⟨RX6, TX6, 9, tyX6, rfl, by decide, m2_at 231 (by decide +kernel) rfl, iwX6, tyX6_ok, nmX6, rfl, rfl⟩
theorem fl_X6_37 : m2_FL RX6 37 6 8 (.int) false := ⟨RX6, TX6, 9, tyX6, rfl, by decide, m2_at 232 (by decide +kernel) rfl, iwX6, tyX6_ok, nmX6, rfl, rfl⟩
theorem fl_X3_34 : m2_FL RX3 34 6 8 (.int) false := ⟨RX6, TX6, 9, tyX6, rfl, by decide, m2_at 233 (by decide +kernel) rfl, iwX6, tyX6_ok, nmX6, rfl, rfl⟩
theorem fl_X2_44 : m2_FL RX2 44 6 8 (.int) false := ⟨RX6, TX6, 9, tyX6, rfl, by decide, m2_at 234 (by decide +kernel) rfl, iwX6, tyX6_ok, nmX6, rfl, rfl⟩
theorem fl_X4_79 : m2_FL RX4 79 6 8 (.int) false := ⟨RX6, TX6, 9, tyX6, rfl, by decide, m2_at 235 (by decide +kernel) rfl, iwX6, tyX6_ok, nmX6, rfl, rfl⟩
theorem fl_X10_63 : m2_FL RX10 63 6 8 (.int) false := ⟨RX6, TX6, 9, tyX6, rfl, by decide, m2_at 236 (by decide +kernel) rfl, iwX6, tyX6_ok, nmX6, rfl, rfl⟩
theorem fl_X11_353 : m2_FL RX11 353 6 8 (.int) false := ⟨RX6, TX6, 9, tyX6, rfl, by decide, m2_at 237 (by decide +kernel) rfl, iwX6, tyX6_ok, nmX6, rfl, rfl⟩
theorem fl_X2_9 : m2_FL RX2 9 2 0 (tyX2 0) true := ⟨RX2, TX2, 8, tyX2, rfl, by decide, m2_at 263 (by decide +kernel) rfl, iwX2, tyX2_ok, nmX2, rfl, rfl⟩
theorem fl_X2_15 : m2_FL RX2 15 2 1 (tyX2 1) true := ⟨RX2, TX2, 8, tyX2, rfl, by decide, m2_at 264 (by decide +kernel) rfl, iwX2, tyX2_ok, nmX2, rfl, rfl⟩
theorem fl_X2_19 : m2_FL RX2 19 2 2 (tyX2 2) true := ⟨RX2, TX2, 8, tyX2, rfl, by decide, m2_at 265 (by decide +kernel) rfl, iwX2, tyX2_ok, nmX2, rfl, rfl⟩
theorem fl_X2_29 : m2_FL RX2 29 2 3 (.int) false := ⟨RX2, TX2, 8, tyX2, rfl, by decide, m2_at 266 (by decide +kernel) rfl, iwX2, tyX2_ok, nmX2, rfl, rfl⟩
theorem fl_X2_33 : m2_FL RX2 33 2 4 (.int) false := ⟨RX2, TX2, 8, tyX2, rfl, by decide, m2_at 267 (by decide +kernel) rfl, iwX2, tyX2_ok, nmX2, rfl, rfl⟩
theorem fl_X2_75 : m2_FL RX2 75 2 5 (.int) false := ⟨RX2, TX2, 8, tyX2, rfl, by decide, m2_at 268 (by decide +kernel) rfl, iwX2, tyX2_ok, nmX2, rfl, rfl⟩
theorem fl_X2_41 : m2_FL RX2 41 2 6 (.int) false := ⟨RX2, TX2, 8, tyX2, rfl, by decide, m2_at 269 (by decide +kernel) rfl, iwX2, tyX2_ok, nmX2, rfl, rfl⟩
theorem fl_X2_47 : m2_FL RX2 47 2 7 (.int) false := ⟨RX2, TX2, 8, tyX2, rfl, by decide, m2_at 270 (by decide +kernel) rfl, iwX2, tyX2_ok, nmX2, rfl, rfl⟩
theorem fl_X7_29 : m2_FL RX7 29 7 0 (tyX7 0) true := ⟨RX7, TX7, 15, tyX7, rfl, by decide, m2_at 294 (by decide +kernel) rfl, iwX7, tyX7_ok, nmX7, rfl, rfl⟩
theorem fl_X7_9 : m2_FL RX7 9 7 1 (tyX7 1) true := ⟨RX7, TX7, 15, tyX7, rfl, by decide, m2_at 295 (by decide +kernel) rfl, iwX7, tyX7_ok, nmX7, rfl, rfl⟩
theorem fl_X7_76 : m2_FL RX7 76 7 2 (.int) false := ⟨RX7, TX7, 15, tyX7, rfl, by decide, m2_at 296 (by decide +kernel) rfl, iwX7, tyX7_ok, nmX7, rfl, rfl⟩
theorem fl_X7_73 : m2_FL RX7 73 7 3 (.boolean) false := ⟨RX7, TX7, 15, tyX7, rfl, by decide, m2_at 297 (by decide +kernel) rfl, iwX7, tyX7_ok, nmX7, rfl, rfl⟩
theorem fl_X10_83 : m2_FL RX10 83 7 3 (.boolean) false := ⟨RX7, TX7, 15, tyX7, rfl, by decide, m2_at 298 (by decide +kernel) rfl, iwX7, tyX7_ok, nmX7, rfl, rfl⟩
theorem fl_X7_13 : m2_FL RX7 13 7 4 (tyX7 4) true := ⟨RX7, TX7, 15, tyX7, rfl, by decide, m2_at 299 (by decide +kernel) rfl, iwX7, tyX7_ok, nmX7, rfl, rfl⟩
theorem fl_X7_46 : m2_FL RX7 46 7 5 (.int) false := ⟨RX7, TX7, 15, tyX7, rfl, by decide, m2_at 300 (by decide +kernel) rfl, iwX7, tyX7_ok, nmX7, rfl, rfl⟩
theorem fl_X7_16 : m2_FL RX7 16 7 6 (tyX7 6) true := ⟨RX7, TX7, 15, tyX7, rfl, by decide, m2_at 301 (by decide +kernel) rfl, iwX7, tyX7_ok, nmX7, rfl, rfl⟩
theorem fl_X7_49 : m2_FL RX7 49 7 7 (.int) false := ⟨RX7, TX7, 15, tyX7, rfl, by decide, m2_at 302 (by decide +kernel) rfl, iwX7, tyX7_ok, nmX7, rfl, rfl⟩
theorem fl_X7_19 : m2_FL RX7 19 7 8 (tyX7 8) true := ⟨RX7, TX7, 15, tyX7, rfl, by decide, m2_at 303 (by decide +kernel) rfl, iwX7, tyX7_ok, nmX7, rfl, rfl⟩
theorem fl_X7_52 : m2_FL RX7 52 7 9 (.int) false := ⟨RX7, TX7, 15, tyX7, rfl, by decide, m2_at 304 (by decide +kernel) rfl, iwX7, tyX7_ok, nmX7, rfl, rfl⟩
theorem fl_X7_39 : m2_FL RX7 39 7 10 (.int) false := ⟨RX7, TX7, 15, tyX7, rfl, by decide, m2_at 305 (by decide +kernel) rfl, iwX7, tyX7_ok, nmX7, rfl, rfl⟩
theorem fl_X7_43 : m2_FL RX7 43 7 11 (.int) false := ⟨RX7, TX7, 15, tyX7, rfl, by decide, m2_at 306 (by decide +kernel) rfl, iwX7, tyX7_ok, nmX7, rfl, rfl⟩
theorem fl_X7_55 : m2_FL RX7 55 7 12 (.boolean) false := ⟨RX7, TX7, 15, tyX7, rfl, by decide, m2_at 307 (by decide +kernel) rfl, iwX7, tyX7_ok, nmX7, rfl, rfl⟩
theorem fl_X7_23 : m2_FL RX7 23 7 13 (tyX7 13) true := ⟨RX7, TX7, 15, tyX7, rfl, by decide, m2_at 308 (by decide +kernel) rfl, iwX7, tyX7_ok, nmX7, rfl, rfl⟩
theorem fl_X7_26 : m2_FL RX7 26 7 14 (tyX7 14) true := ⟨RX7, TX7, 15, tyX7, rfl, by decide, m2_at 309 (by decide +kernel) rfl, iwX7, tyX7_ok, nmX7, rfl, rfl⟩
theorem fl_X8_24 : m2_FL RX8 24 8 0 (tyX8 0) true := ⟨RX8, TX8, 5, tyX8, rfl, by decide, m2_at 347 (by decide +kernel) rfl, iwX8, tyX8_ok, nmX8, rfl, rfl⟩
theorem fl_X8_9 : m2_FL RX8 9 8 1 (tyX8 1) true := ⟨RX8, TX8, 5, tyX8, rfl, by decide, m2_at 348 (by decide +kernel) rfl, iwX8, tyX8_ok, nmX8, rfl, rfl⟩
theorem fl_X5_93 : m2_FL RX5 93 8 1 (tyX8 1) true := ⟨RX8, TX8, 5, tyX8, rfl, by decide, m2_at 349 (by decide +kernel) rfl, iwX8, tyX8_ok, nmX8, rfl, rfl⟩
theorem fl_X10_127 : m2_FL RX10 127 8 1 (tyX8 1) true := ⟨RX8, TX8, 5, tyX8, rfl, by decide, m2_at 350 (by decide +kernel) rfl, iwX8, tyX8_ok, nmX8, rfl, rfl⟩
theorem fl_X11_407 : m2_FL RX11 407 8 1 (tyX8 1) true := ⟨RX8, TX8, 5, tyX8, rfl, by decide, m2_at 351 (by decide +kernel) rfl, iwX8, tyX8_ok, nmX8, rfl, rfl⟩
theorem fl_X8_15 : m2_FL RX8 15 8 2 (tyX8 2) true := ⟨RX8, TX8, 5, tyX8, rfl, by decide, m2_at 352 (by decide +kernel) rfl, iwX8, tyX8_ok, nmX8, rfl, rfl⟩
theorem fl_X5_58 : m2_FL RX5 58 8 2 (tyX8 2) true := ⟨RX8, TX8, 5, tyX8, rfl, by decide, m2_at 353 (by decide +kernel) rfl, iwX8, tyX8_ok, nmX8, rfl, rfl⟩
theorem fl_X9_53 : m2_FL RX9 53 8 2 (tyX8 2) true := ⟨RX8, TX8, 5, tyX8, rfl, by decide, m2_at 354 (by decide +kernel) rfl, iwX8, tyX8_ok, nmX8, rfl, rfl⟩
theorem fl_X10_113 : m2_FL RX10 113 8 2 (tyX8 2) true := ⟨RX8, TX8, 5, tyX8, rfl, by decide, m2_at 355 (by decide +kernel) rfl, iwX8, tyX8_ok, nmX8, rfl, rfl⟩
theorem fl_X8_18 : m2_FL RX8 18 8 3 (tyX8 3) true := ⟨RX8, TX8, 5, tyX8, rfl, by decide, m2_at 356 (by decide +kernel) rfl, iwX8, tyX8_ok, nmX8, rfl, rfl⟩
theorem fl_X8_21 : m2_FL RX8 21 8 4 (tyX8 4) true := ⟨RX8, TX8, 5, tyX8, rfl, by decide, m2_at 357 (by decide +kernel) rfl, iwX8, tyX8_ok, nmX8, rfl, rfl⟩
theorem fl_X5_105 : m2_FL RX5 105 8 4 (tyX8 4) true := ⟨RX8, TX8, 5, tyX8, rfl, by decide, m2_at 358 (by decide +kernel) rfl, iwX8, tyX8_ok, nmX8, rfl, rfl⟩
theorem fl_X10_101 : m2_FL RX10 101 8 4 (tyX8 4) true := ⟨RX8, TX8, 5, tyX8, rfl, by decide, m2_at 359 (by decide +kernel) rfl, iwX8, tyX8_ok, nmX8, rfl, rfl⟩
theorem fl_X11_421 : m2_FL RX11 421 8 4 (tyX8 4) true := ⟨RX8, TX8, 5, tyX8, rfl, by decide, m2_at 360 (by decide +kernel) rfl, iwX8, tyX8_ok, nmX8, rfl, rfl⟩
theorem fl_X1_9 : m2_FL RX1 9 1 0 (tyX1 0) true := ⟨RX1, TX1, 11, tyX1, rfl, by decide, m2_at 378 (by decide +kernel) rfl, iwX1, tyX1_ok, nmX1, rfl, rfl⟩
theorem fl_X1_15 : m2_FL RX1 15 1 1 (tyX1 1) true := ⟨RX1, TX1, 11, tyX1, rfl, by decide, m2_at 379 (by decide +kernel) rfl, iwX1, tyX1_ok, nmX1, rfl, rfl⟩
theorem fl_X1_18 : m2_FL RX1 18 1 2 (tyX1 2) true := ⟨RX1, TX1, 11, tyX1, rfl, by decide, m2_at 380 (by decide +kernel) rfl, iwX1, tyX1_ok, nmX1, rfl, rfl⟩
theorem fl_X1_22 : m2_FL RX1 22 1 3 (tyX1 3) true := ⟨RX1, TX1, 11, tyX1, rfl, by decide, m2_at 381 (by decide +kernel) rfl, iwX1, tyX1_ok, nmX1, rfl, rfl⟩
theorem fl_X11_300 : m2_FL RX11 300 1 3 (tyX1 3) true := ⟨RX1, TX1, 11, tyX1, rfl, by decide, m2_at 382 (by decide +kernel) rfl, iwX1, tyX1_ok, nmX1, rfl, rfl⟩
theorem fl_X1_25 : m2_FL RX1 25 1 4 (tyX1 4) true := ⟨RX1, TX1, 11, tyX1, rfl, by decide, m2_at 383 (by decide +kernel) rfl, iwX1, tyX1_ok, nmX1, rfl, rfl⟩
theorem fl_X1_28 : m2_FL RX1 28 1 5 (tyX1 5) true := ⟨RX1, TX1, 11, tyX1, rfl, by decide, m2_at 384 (by decide +kernel) rfl, iwX1, tyX1_ok, nmX1, rfl, rfl⟩
theorem fl_X11_304 : m2_FL RX11 304 1 5 (tyX1 5) true := ⟨RX1, TX1, 11, tyX1, rfl, by decide, m2_at 385 (by decide +kernel) rfl, iwX1, tyX1_ok, nmX1, rfl, rfl⟩
theorem fl_X1_43 : m2_FL RX1 43 1 6 (.int) false := ⟨RX1, TX1, 11, tyX1, rfl, by decide, m2_at 386 (by decide +kernel) rfl, iwX1, tyX1_ok, nmX1, rfl, rfl⟩
theorem fl_X1_46 : m2_FL RX1 46 1 7 (.int) false := ⟨RX1, TX1, 11, tyX1, rfl, by decide, m2_at 387 (by decide +kernel) rfl, iwX1, tyX1_ok, nmX1, rfl, rfl⟩
theorem fl_X1_31 : m2_FL RX1 31 1 8 (tyX1 8) true := ⟨RX1, TX1, 11, tyX1, rfl, by decide, m2_at 388 (by decide +kernel) rfl, iwX1, tyX1_ok, nmX1, rfl, rfl⟩
theorem fl_X1_34 : m2_FL RX1 34 1 9 (tyX1 9) true := ⟨RX1, TX1, 11, tyX1, rfl, by decide, m2_at 389 (by decide +kernel) rfl, iwX1, tyX1_ok, nmX1, rfl, rfl⟩
theorem fl_X1_73 : m2_FL RX1 73 1 10 (.int) false := ⟨RX1, TX1, 11, tyX1, rfl, by decide, m2_at 390 (by decide +kernel) rfl, iwX1, tyX1_ok, nmX1, rfl, rfl⟩
theorem fl_X10_22 : m2_FL RX10 22 10 0 (tyX10 0) true := ⟨RX10, TX10, 9, tyX10, rfl, by decide, m2_at 420 (by decide +kernel) rfl, iwX10, tyX10_ok, nmX10, rfl, rfl⟩
theorem fl_X10_26 : m2_FL RX10 26 10 1 (tyX10 1) true := ⟨RX10, TX10, 9, tyX10, rfl, by decide, m2_at 421 (by decide +kernel) rfl, iwX10, tyX10_ok, nmX10, rfl, rfl⟩
theorem fl_X10_30 : m2_FL RX10 30 10 2 (tyX10 2) true := ⟨RX10, TX10, 9, tyX10, rfl, by decide, m2_at 422 (by decide +kernel) rfl, iwX10, tyX10_ok, nmX10, rfl, rfl⟩
theorem fl_X10_34 : m2_FL RX10 34 10 3 (tyX10 3) true := ⟨RX10, TX10, 9, tyX10, rfl, by decide, m2_at 423 (by decide +kernel) rfl, iwX10, tyX10_ok, nmX10, rfl, rfl⟩
theorem fl_X10_9 : m2_FL RX10 9 10 4 (tyX10 4) true := ⟨RX10, TX10, 9, tyX10, rfl, by decide, m2_at 424 (by decide +kernel) rfl, iwX10, tyX10_ok, nmX10, rfl, rfl⟩
theorem fl_X11_276 : m2_FL RX11 276 10 4 (tyX10 4) true := ⟨RX10, TX10, 9, tyX10, rfl, by decide, m2_at 425 (by decide +kernel) rfl, iwX10, tyX10_ok, nmX10, rfl, rfl⟩
theorem fl_X10_15 : m2_FL RX10 15 10 5 (tyX10 5) true := ⟨RX10, TX10, 9, tyX10, rfl, by decide, m2_at 426 (by decide +kernel) rfl, iwX10, tyX10_ok, nmX10, rfl, rfl⟩
theorem fl_X11_279 : m2_FL RX11 279 10 5 (tyX10 5) true := ⟨RX10, TX10, 9, tyX10, rfl, by decide, m2_at 427 (by decide +kernel) rfl, iwX10, tyX10_ok, nmX10, rfl, rfl⟩
theorem fl_X10_18 : m2_FL RX10 18 10 6 (.int) false := ⟨RX10, TX10, 9, tyX10, rfl, by decide, m2_at 428 (by decide +kernel) rfl, iwX10, tyX10_ok, nmX10, rfl, rfl⟩
theorem fl_X11_202 : m2_FL RX11 202 10 6 (.int) false := ⟨RX10, TX10, 9, tyX10, rfl, by decide, m2_at 429 (by decide +kernel) rfl, iwX10, tyX10_ok, nmX10, rfl, rfl⟩
theorem fl_X10_69 : m2_FL RX10 69 10 7 (.int) false := ⟨RX10, TX10, 9, tyX10, rfl, by decide, m2_at 430 (by decide +kernel) rfl, iwX10, tyX10_ok, nmX10, rfl, rfl⟩
theorem fl_X11_273 : m2_FL RX11 273 10 7 (.int) false := ⟨RX10, TX10, 9, tyX10, rfl, by decide, m2_at 431 (by decide +kernel) rfl, iwX10, tyX10_ok, nmX10, rfl, rfl⟩
theorem fl_X10_166 : m2_FL RX10 166 10 8 (.boolean) false := ⟨RX10, TX10, 9, tyX10, rfl, by decide, m2_at 432 (by decide +kernel) rfl, iwX10, tyX10_ok, nmX10, rfl, rfl⟩
theorem fl_X11_265 : m2_FL RX11 265 10 8 (.boolean) false := ⟨RX10, TX10, 9, tyX10, rfl, by decide, m2_at 433 (by decide +kernel) rfl, iwX10, tyX10_ok, nmX10, rfl, rfl⟩
theorem fl_X3_9 : m2_FL RX3 9 3 0 (tyX3 0) true := ⟨RX3, TX3, 8, tyX3, rfl, by decide, m2_at 465 (by decide +kernel) rfl, iwX3, tyX3_ok, nmX3, rfl, rfl⟩
theorem fl_X3_15 : m2_FL RX3 15 3 1 (tyX3 1) true := ⟨RX3, TX3, 8, tyX3, rfl, by decide, m2_at 466 (by decide +kernel) rfl, iwX3, tyX3_ok, nmX3, rfl, rfl⟩
theorem fl_X3_18 : m2_FL RX3 18 3 2 (tyX3 2) true := ⟨RX3, TX3, 8, tyX3, rfl, by decide, m2_at 467 (by decide +kernel) rfl, iwX3, tyX3_ok, nmX3, rfl, rfl⟩
theorem fl_X3_22 : m2_FL RX3 22 3 3 (tyX3 3) true := ⟨RX3, TX3, 8, tyX3, rfl, by decide, m2_at 468 (by decide +kernel) rfl, iwX3, tyX3_ok, nmX3, rfl, rfl⟩
theorem fl_X3_31 : m2_FL RX3 31 3 4 (.int) false := ⟨RX3, TX3, 8, tyX3, rfl, by decide, m2_at 469 (by decide +kernel) rfl, iwX3, tyX3_ok, nmX3, rfl, rfl⟩
theorem fl_X3_37 : m2_FL RX3 37 3 5 (.int) false := ⟨RX3, TX3, 8, tyX3, rfl, by decide, m2_at 470 (by decide +kernel) rfl, iwX3, tyX3_ok, nmX3, rfl, rfl⟩
theorem fl_X3_43 : m2_FL RX3 43 3 6 (.int) false := ⟨RX3, TX3, 8, tyX3, rfl, by decide, m2_at 471 (by decide +kernel) rfl, iwX3, tyX3_ok, nmX3, rfl, rfl⟩
theorem fl_X3_54 : m2_FL RX3 54 3 7 (.boolean) false := ⟨RX3, TX3, 8, tyX3, rfl, by decide, m2_at 472 (by decide +kernel) rfl, iwX3, tyX3_ok, nmX3, rfl, rfl⟩
theorem fl_X11_410 : m2_FL RX11 410 3 7 (.boolean) false := ⟨RX3, TX3, 8, tyX3, rfl, by decide, m2_at 473 (by decide +kernel) rfl, iwX3, tyX3_ok, nmX3, rfl, rfl⟩
theorem fl_X4_30 : m2_FL RX4 30 4 0 (tyX4 0) true := ⟨RX4, TX4, 15, tyX4, rfl, by decide, m2_at 491 (by decide +kernel) rfl, iwX4, tyX4_ok, nmX4, rfl, rfl⟩
theorem fl_X4_34 : m2_FL RX4 34 4 1 (tyX4 1) true := ⟨RX4, TX4, 15, tyX4, rfl, by decide, m2_at 492 (by decide +kernel) rfl, iwX4, tyX4_ok, nmX4, rfl, rfl⟩
theorem fl_X4_38 : m2_FL RX4 38 4 2 (tyX4 2) true := ⟨RX4, TX4, 15, tyX4, rfl, by decide, m2_at 493 (by decide +kernel) rfl, iwX4, tyX4_ok, nmX4, rfl, rfl⟩
theorem fl_X4_13 : m2_FL RX4 13 4 3 (tyX4 3) true := ⟨RX4, TX4, 15, tyX4, rfl, by decide, m2_at 494 (by decide +kernel) rfl, iwX4, tyX4_ok, nmX4, rfl, rfl⟩
theorem fl_X4_17 : m2_FL RX4 17 4 4 (tyX4 4) true := ⟨RX4, TX4, 15, tyX4, rfl, by decide, m2_at 495 (by decide +kernel) rfl, iwX4, tyX4_ok, nmX4, rfl, rfl⟩
theorem fl_X4_21 : m2_FL RX4 21 4 5 (tyX4 5) true := ⟨RX4, TX4, 15, tyX4, rfl, by decide, m2_at 496 (by decide +kernel) rfl, iwX4, tyX4_ok, nmX4, rfl, rfl⟩
theorem fl_X4_24 : m2_FL RX4 24 4 6 (tyX4 6) true := ⟨RX4, TX4, 15, tyX4, rfl, by decide, m2_at 497 (by decide +kernel) rfl, iwX4, tyX4_ok, nmX4, rfl, rfl⟩
theorem fl_X11_347 : m2_FL RX11 347 4 6 (tyX4 6) true := ⟨RX4, TX4, 15, tyX4, rfl, by decide, m2_at 498 (by decide +kernel) rfl, iwX4, tyX4_ok, nmX4, rfl, rfl⟩
theorem fl_X4_55 : m2_FL RX4 55 4 7 (.int) false := ⟨RX4, TX4, 15, tyX4, rfl, by decide, m2_at 499 (by decide +kernel) rfl, iwX4, tyX4_ok, nmX4, rfl, rfl⟩
theorem fl_X11_346 : m2_FL RX11 346 4 7 (.int) false := ⟨RX4, TX4, 15, tyX4, rfl, by decide, m2_at 500 (by decide +kernel) rfl, iwX4, tyX4_ok, nmX4, rfl, rfl⟩
theorem fl_X4_73 : m2_FL RX4 73 4 8 (.int) false := ⟨RX4, TX4, 15, tyX4, rfl, by decide, m2_at 501 (by decide +kernel) rfl, iwX4, tyX4_ok, nmX4, rfl, rfl⟩
theorem fl_X11_350 : m2_FL RX11 350 4 8 (.int) false := ⟨RX4, TX4, 15, tyX4, rfl, by decide, m2_at 502 (by decide +kernel) rfl, iwX4, tyX4_ok, nmX4, rfl, rfl⟩
theorem fl_X4_76 : m2_FL RX4 76 4 9 (.int) false := ⟨RX4, TX4, 15, tyX4, rfl, by decide, m2_at 503 (by decide +kernel) rfl, iwX4, tyX4_ok, nmX4, rfl, rfl⟩
theorem fl_X11_343 : m2_FL RX11 343 4 9 (.int) false := ⟨RX4, TX4, 15, tyX4, rfl, by decide, m2_at 504 (by decide +kernel) rfl, iwX4, tyX4_ok, nmX4, rfl, rfl⟩
theorem fl_X4_51 : m2_FL RX4 51 4 10 (.int) false := ⟨RX4, TX4, 15, tyX4, rfl, by decide, m2_at 505 (by decide +kernel) rfl, iwX4, tyX4_ok, nmX4, rfl, rfl⟩
theorem fl_X4_64 : m2_FL RX4 64 4 11 (.int) false := ⟨RX4, TX4, 15, tyX4, rfl, by decide, m2_at 506 (by decide +kernel) rfl, iwX4, tyX4_ok, nmX4, rfl, rfl⟩
theorem fl_X4_67 : m2_FL RX4 67 4 12 (.int) false := ⟨RX4, TX4, 15, tyX4, rfl, by decide, m2_at 507 (by decide +kernel) rfl, iwX4, tyX4_ok, nmX4, rfl, rfl⟩
theorem fl_X4_27 : m2_FL RX4 27 4 13 (tyX4 13) true := ⟨RX4, TX4, 15, tyX4, rfl, by decide, m2_at 508 (by decide +kernel) rfl, iwX4, tyX4_ok, nmX4, rfl, rfl⟩
theorem fl_X4_70 : m2_FL RX4 70 4 14 (.int) false := ⟨RX4, TX4, 15, tyX4, rfl, by decide, m2_at 509 (by decide +kernel) rfl, iwX4, tyX4_ok, nmX4, rfl, rfl⟩
theorem fl_X9_26 : m2_FL RX9 26 9 0 (tyX9 0) true := ⟨RX9, TX9, 6, tyX9, rfl, by decide, m2_at 549 (by decide +kernel) rfl, iwX9, tyX9_ok, nmX9, rfl, rfl⟩
theorem fl_X9_11 : m2_FL RX9 11 9 1 (tyX9 1) true := ⟨RX9, TX9, 6, tyX9, rfl, by decide, m2_at 550 (by decide +kernel) rfl, iwX9, tyX9_ok, nmX9, rfl, rfl⟩
theorem fl_X9_17 : m2_FL RX9 17 9 2 (tyX9 2) true := ⟨RX9, TX9, 6, tyX9, rfl, by decide, m2_at 551 (by decide +kernel) rfl, iwX9, tyX9_ok, nmX9, rfl, rfl⟩
theorem fl_X9_20 : m2_FL RX9 20 9 3 (tyX9 3) true := ⟨RX9, TX9, 6, tyX9, rfl, by decide, m2_at 552 (by decide +kernel) rfl, iwX9, tyX9_ok, nmX9, rfl, rfl⟩
theorem fl_X9_23 : m2_FL RX9 23 9 4 (tyX9 4) true := ⟨RX9, TX9, 6, tyX9, rfl, by decide, m2_at 553 (by decide +kernel) rfl, iwX9, tyX9_ok, nmX9, rfl, rfl⟩
theorem fl_X11_367 : m2_FL RX11 367 9 4 (tyX9 4) true := ⟨RX9, TX9, 6, tyX9, rfl, by decide, m2_at 554 (by decide +kernel) rfl, iwX9, tyX9_ok, nmX9, rfl, rfl⟩
theorem fl_X9_36 : m2_FL RX9 36 9 5 (.int) false := ⟨RX9, TX9, 6, tyX9, rfl, by decide, m2_at 555 (by decide +kernel) rfl, iwX9, tyX9_ok, nmX9, rfl, rfl⟩
theorem fl_X11_366 : m2_FL RX11 366 9 5 (.int) false := ⟨RX9, TX9, 6, tyX9, rfl, by decide, m2_at 556 (by decide +kernel) rfl, iwX9, tyX9_ok, nmX9, rfl, rfl⟩
theorem fl_X5_24 : m2_FL RX5 24 5 0 (tyX5 0) true := ⟨RX5, TX5, 14, tyX5, rfl, by decide, m2_at 576 (by decide +kernel) rfl, iwX5, tyX5_ok, nmX5, rfl, rfl⟩
theorem fl_X5_28 : m2_FL RX5 28 5 1 (tyX5 1) true := ⟨RX5, TX5, 14, tyX5, rfl, by decide, m2_at 577 (by decide +kernel) rfl, iwX5, tyX5_ok, nmX5, rfl, rfl⟩
theorem fl_X5_9 : m2_FL RX5 9 5 2 (tyX5 2) true := ⟨RX5, TX5, 14, tyX5, rfl, by decide, m2_at 578 (by decide +kernel) rfl, iwX5, tyX5_ok, nmX5, rfl, rfl⟩
theorem fl_X5_15 : m2_FL RX5 15 5 3 (tyX5 3) true := ⟨RX5, TX5, 14, tyX5, rfl, by decide, m2_at 579 (by decide +kernel) rfl, iwX5, tyX5_ok, nmX5, rfl, rfl⟩
theorem fl_X5_18 : m2_FL RX5 18 5 4 (tyX5 4) true := ⟨RX5, TX5, 14, tyX5, rfl, by decide, m2_at 580 (by decide +kernel) rfl, iwX5, tyX5_ok, nmX5, rfl, rfl⟩
theorem fl_X11_376 : m2_FL RX11 376 5 4 (tyX5 4) true := ⟨RX5, TX5, 14, tyX5, rfl, by decide, m2_at 581 (by decide +kernel) rfl, iwX5, tyX5_ok, nmX5, rfl, rfl⟩
theorem fl_X5_99 : m2_FL RX5 99 5 5 (.int) false := ⟨RX5, TX5, 14, tyX5, rfl, by decide, m2_at 582 (by decide +kernel) rfl, iwX5, tyX5_ok, nmX5, rfl, rfl⟩
theorem fl_X11_373 : m2_FL RX11 373 5 5 (.int) false := ⟨RX5, TX5, 14, tyX5, rfl, by decide, m2_at 583 (by decide +kernel) rfl, iwX5, tyX5_ok, nmX5, rfl, rfl⟩
theorem fl_X5_21 : m2_FL RX5 21 5 6 (tyX5 6) true := ⟨RX5, TX5, 14, tyX5, rfl, by decide, m2_at 584 (by decide +kernel) rfl, iwX5, tyX5_ok, nmX5, rfl, rfl⟩
theorem fl_X11_380 : m2_FL RX11 380 5 6 (tyX5 6) true := ⟨RX5, TX5, 14, tyX5, rfl, by decide, m2_at 585 (by decide +kernel) rfl, iwX5, tyX5_ok, nmX5, rfl, rfl⟩
theorem fl_X5_102 : m2_FL RX5 102 5 7 (.int) false := ⟨RX5, TX5, 14, tyX5, rfl, by decide, m2_at 586 (by decide +kernel) rfl, iwX5, tyX5_ok, nmX5, rfl, rfl⟩
theorem fl_X11_377 : m2_FL RX11 377 5 7 (.int) false := ⟨RX5, TX5, 14, tyX5, rfl, by decide, m2_at 587 (by decide +kernel) rfl, iwX5, tyX5_ok, nmX5, rfl, rfl⟩
theorem fl_X5_46 : m2_FL RX5 46 5 8 (.int) false := ⟨RX5, TX5, 14, tyX5, rfl, by decide, m2_at 588 (by decide +kernel) rfl, iwX5, tyX5_ok, nmX5, rfl, rfl⟩
theorem fl_X5_32 : m2_FL RX5 32 5 9 (.int) false := ⟨RX5, TX5, 14, tyX5, rfl, by decide, m2_at 589 (by decide +kernel) rfl, iwX5, tyX5_ok, nmX5, rfl, rfl⟩
theorem fl_X5_36 : m2_FL RX5 36 5 10 (.int) false := ⟨RX5, TX5, 14, tyX5, rfl, by decide, m2_at 590 (by decide +kernel) rfl, iwX5, tyX5_ok, nmX5, rfl, rfl⟩
theorem fl_X5_39 : m2_FL RX5 39 5 11 (.int) false := ⟨RX5, TX5, 14, tyX5, rfl, by decide, m2_at 591 (by decide +kernel) rfl, iwX5, tyX5_ok, nmX5, rfl, rfl⟩
theorem fl_X5_61 : m2_FL RX5 61 5 12 (.int) false := ⟨RX5, TX5, 14, tyX5, rfl, by decide, m2_at 592 (by decide +kernel) rfl, iwX5, tyX5_ok, nmX5, rfl, rfl⟩
theorem fl_X5_42 : m2_FL RX5 42 5 13 (.boolean) false := ⟨RX5, TX5, 14, tyX5, rfl, by decide, m2_at 593 (by decide +kernel) rfl, iwX5, tyX5_ok, nmX5, rfl, rfl⟩
theorem fl_X11_9 : m2_FL RX11 9 11 0 (tyX11 0) true := ⟨RX11, TX11, 20, tyX11, rfl, by decide, m2_at 624 (by decide +kernel) rfl, iwX11, tyX11_ok, nmX11, rfl, rfl⟩
theorem fl_X11_121 : m2_FL RX11 121 11 1 (.int) false := ⟨RX11, TX11, 20, tyX11, rfl, by decide, m2_at 625 (by decide +kernel) rfl, iwX11, tyX11_ok, nmX11, rfl, rfl⟩
theorem fl_X11_13 : m2_FL RX11 13 11 2 (tyX11 2) true := ⟨RX11, TX11, 20, tyX11, rfl, by decide, m2_at 626 (by decide +kernel) rfl, iwX11, tyX11_ok, nmX11, rfl, rfl⟩
theorem fl_X11_240 : m2_FL RX11 240 11 3 (.int) false := ⟨RX11, TX11, 20, tyX11, rfl, by decide, m2_at 627 (by decide +kernel) rfl, iwX11, tyX11_ok, nmX11, rfl, rfl⟩
theorem fl_X11_17 : m2_FL RX11 17 11 4 (tyX11 4) true := ⟨RX11, TX11, 20, tyX11, rfl, by decide, m2_at 628 (by decide +kernel) rfl, iwX11, tyX11_ok, nmX11, rfl, rfl⟩
theorem fl_X11_21 : m2_FL RX11 21 11 5 (tyX11 5) true := ⟨RX11, TX11, 20, tyX11, rfl, by decide, m2_at 629 (by decide +kernel) rfl, iwX11, tyX11_ok, nmX11, rfl, rfl⟩
theorem fl_X11_24 : m2_FL RX11 24 11 6 (tyX11 6) true := ⟨RX11, TX11, 20, tyX11, rfl, by decide, m2_at 630 (by decide +kernel) rfl, iwX11, tyX11_ok, nmX11, rfl, rfl⟩
theorem fl_X11_395 : m2_FL RX11 395 11 7 (.int) false := ⟨RX11, TX11, 20, tyX11, rfl, by decide, m2_at 631 (by decide +kernel) rfl, iwX11, tyX11_ok, nmX11, rfl, rfl⟩
theorem fl_X11_27 : m2_FL RX11 27 11 8 (tyX11 8) true := ⟨RX11, TX11, 20, tyX11, rfl, by decide, m2_at 632 (by decide +kernel) rfl, iwX11, tyX11_ok, nmX11, rfl, rfl⟩
theorem fl_X11_32 : m2_FL RX11 32 11 9 (tyX11 9) true := ⟨RX11, TX11, 20, tyX11, rfl, by decide, m2_at 633 (by decide +kernel) rfl, iwX11, tyX11_ok, nmX11, rfl, rfl⟩
theorem fl_X11_39 : m2_FL RX11 39 11 10 (tyX11 10) true := ⟨RX11, TX11, 20, tyX11, rfl, by decide, m2_at 634 (by decide +kernel) rfl, iwX11, tyX11_ok, nmX11, rfl, rfl⟩
theorem fl_X11_46 : m2_FL RX11 46 11 11 (tyX11 11) true := ⟨RX11, TX11, 20, tyX11, rfl, by decide, m2_at 635 (by decide +kernel) rfl, iwX11, tyX11_ok, nmX11, rfl, rfl⟩
theorem fl_X11_55 : m2_FL RX11 55 11 12 (tyX11 12) true := ⟨RX11, TX11, 20, tyX11, rfl, by decide, m2_at 636 (by decide +kernel) rfl, iwX11, tyX11_ok, nmX11, rfl, rfl⟩
theorem fl_X11_64 : m2_FL RX11 64 11 13 (tyX11 13) true := ⟨RX11, TX11, 20, tyX11, rfl, by decide, m2_at 637 (by decide +kernel) rfl, iwX11, tyX11_ok, nmX11, rfl, rfl⟩
theorem fl_X11_73 : m2_FL RX11 73 11 14 (tyX11 14) true := ⟨RX11, TX11, 20, tyX11, rfl, by decide, m2_at 638 (by decide +kernel) rfl, iwX11, tyX11_ok, nmX11, rfl, rfl⟩
theorem fl_X11_80 : m2_FL RX11 80 11 15 (tyX11 15) true := ⟨RX11, TX11, 20, tyX11, rfl, by decide, m2_at 639 (by decide +kernel) rfl, iwX11, tyX11_ok, nmX11, rfl, rfl⟩
theorem fl_X11_89 : m2_FL RX11 89 11 16 (tyX11 16) true := ⟨RX11, TX11, 20, tyX11, rfl, by decide, m2_at 640 (by decide +kernel) rfl, iwX11, tyX11_ok, nmX11, rfl, rfl⟩
theorem fl_X11_98 : m2_FL RX11 98 11 17 (tyX11 17) true := ⟨RX11, TX11, 20, tyX11, rfl, by decide, m2_at 641 (by decide +kernel) rfl, iwX11, tyX11_ok, nmX11, rfl, rfl⟩
theorem fl_X11_107 : m2_FL RX11 107 11 18 (tyX11 18) true := ⟨RX11, TX11, 20, tyX11, rfl, by decide, m2_at 642 (by decide +kernel) rfl, iwX11, tyX11_ok, nmX11, rfl, rfl⟩
theorem fl_X11_116 : m2_FL RX11 116 11 19 (tyX11 19) true := ⟨RX11, TX11, 20, tyX11, rfl, by decide, m2_at 643 (by decide +kernel) rfl, iwX11, tyX11_ok, nmX11, rfl, rfl⟩
theorem fl_X12_153 : m2_FL RX12 153 12 0 (.int) false := ⟨RX12, TX12, 71, tyX12, rfl, by decide, m2_at 1466 (by decide +kernel) rfl, iwX12, tyX12_ok, nmX12, rfl, rfl⟩
theorem fl_X12_9 : m2_FL RX12 9 12 1 (tyX12 1) true := ⟨RX12, TX12, 71, tyX12, rfl, by decide, m2_at 1467 (by decide +kernel) rfl, iwX12, tyX12_ok, nmX12, rfl, rfl⟩
theorem fl_X12_13 : m2_FL RX12 13 12 2 (tyX12 2) true := ⟨RX12, TX12, 71, tyX12, rfl, by decide, m2_at 1468 (by decide +kernel) rfl, iwX12, tyX12_ok, nmX12, rfl, rfl⟩
theorem fl_X12_16 : m2_FL RX12 16 12 3 (tyX12 3) true := ⟨RX12, TX12, 71, tyX12, rfl, by decide, m2_at 1469 (by decide +kernel) rfl, iwX12, tyX12_ok, nmX12, rfl, rfl⟩
theorem fl_X12_20 : m2_FL RX12 20 12 4 (tyX12 4) true := ⟨RX12, TX12, 71, tyX12, rfl, by decide, m2_at 1470 (by decide +kernel) rfl, iwX12, tyX12_ok, nmX12, rfl, rfl⟩
theorem fl_X12_23 : m2_FL RX12 23 12 5 (tyX12 5) true := ⟨RX12, TX12, 71, tyX12, rfl, by decide, m2_at 1471 (by decide +kernel) rfl, iwX12, tyX12_ok, nmX12, rfl, rfl⟩
theorem fl_X12_26 : m2_FL RX12 26 12 6 (tyX12 6) true := ⟨RX12, TX12, 71, tyX12, rfl, by decide, m2_at 1472 (by decide +kernel) rfl, iwX12, tyX12_ok, nmX12, rfl, rfl⟩
theorem fl_X12_156 : m2_FL RX12 156 12 7 (.int) false := ⟨RX12, TX12, 71, tyX12, rfl, by decide, m2_at 1473 (by decide +kernel) rfl, iwX12, tyX12_ok, nmX12, rfl, rfl⟩
theorem fl_X12_29 : m2_FL RX12 29 12 8 (tyX12 8) true := ⟨RX12, TX12, 71, tyX12, rfl, by decide, m2_at 1474 (by decide +kernel) rfl, iwX12, tyX12_ok, nmX12, rfl, rfl⟩
theorem fl_X12_32 : m2_FL RX12 32 12 9 (tyX12 9) true := ⟨RX12, TX12, 71, tyX12, rfl, by decide, m2_at 1475 (by decide +kernel) rfl, iwX12, tyX12_ok, nmX12, rfl, rfl⟩
theorem fl_X12_35 : m2_FL RX12 35 12 10 (tyX12 10) true := ⟨RX12, TX12, 71, tyX12, rfl, by decide, m2_at 1476 (by decide +kernel) rfl, iwX12, tyX12_ok, nmX12, rfl, rfl⟩
theorem fl_X12_38 : m2_FL RX12 38 12 11 (tyX12 11) true := ⟨RX12, TX12, 71, tyX12, rfl, by decide, m2_at 1477 (by decide +kernel) rfl, iwX12, tyX12_ok, nmX12, rfl, rfl⟩
theorem fl_X12_41 : m2_FL RX12 41 12 12 (tyX12 12) true := ⟨RX12, TX12, 71, tyX12, rfl, by decide, m2_at 1478 (by decide +kernel) rfl, iwX12, tyX12_ok, nmX12, rfl, rfl⟩
theorem fl_X12_44 : m2_FL RX12 44 12 13 (tyX12 13) true := ⟨RX12, TX12, 71, tyX12, rfl, by decide, m2_at 1479 (by decide +kernel) rfl, iwX12, tyX12_ok, nmX12, rfl, rfl⟩
theorem fl_X12_47 : m2_FL RX12 47 12 14 (tyX12 14) true := ⟨RX12, TX12, 71, tyX12, rfl, by decide, m2_at 1480 (by decide +kernel) rfl, iwX12, tyX12_ok, nmX12, rfl, rfl⟩
theorem fl_X12_50 : m2_FL RX12 50 12 15 (tyX12 15) true := ⟨RX12, TX12, 71, tyX12, rfl, by decide, m2_at 1481 (by decide +kernel) rfl, iwX12, tyX12_ok, nmX12, rfl, rfl⟩
theorem fl_X12_228 : m2_FL RX12 228 12 16 (.int) false := ⟨RX12, TX12, 71, tyX12, rfl, by decide, m2_at 1482 (by decide +kernel) rfl, iwX12, tyX12_ok, nmX12, rfl, rfl⟩
theorem fl_X12_53 : m2_FL RX12 53 12 17 (.int) false := ⟨RX12, TX12, 71, tyX12, rfl, by decide, m2_at 1483 (by decide +kernel) rfl, iwX12, tyX12_ok, nmX12, rfl, rfl⟩
theorem fl_X12_57 : m2_FL RX12 57 12 18 (tyX12 18) true := ⟨RX12, TX12, 71, tyX12, rfl, by decide, m2_at 1484 (by decide +kernel) rfl, iwX12, tyX12_ok, nmX12, rfl, rfl⟩
theorem fl_X12_159 : m2_FL RX12 159 12 19 (.int) false := ⟨RX12, TX12, 71, tyX12, rfl, by decide, m2_at 1485 (by decide +kernel) rfl, iwX12, tyX12_ok, nmX12, rfl, rfl⟩
theorem fl_X12_61 : m2_FL RX12 61 12 20 (tyX12 20) true := ⟨RX12, TX12, 71, tyX12, rfl, by decide, m2_at 1486 (by decide +kernel) rfl, iwX12, tyX12_ok, nmX12, rfl, rfl⟩
theorem fl_X12_146 : m2_FL RX12 146 12 21 (.int) false := ⟨RX12, TX12, 71, tyX12, rfl, by decide, m2_at 1487 (by decide +kernel) rfl, iwX12, tyX12_ok, nmX12, rfl, rfl⟩
theorem fl_X12_143 : m2_FL RX12 143 12 22 (.int) false := ⟨RX12, TX12, 71, tyX12, rfl, by decide, m2_at 1488 (by decide +kernel) rfl, iwX12, tyX12_ok, nmX12, rfl, rfl⟩
theorem fl_X12_162 : m2_FL RX12 162 12 23 (tyX12 23) false := ⟨RX12, TX12, 71, tyX12, rfl, by decide, m2_at 1489 (by decide +kernel) rfl, iwX12, tyX12_ok, nmX12, rfl, rfl⟩
theorem fl_X12_165 : m2_FL RX12 165 12 24 (.int) false := ⟨RX12, TX12, 71, tyX12, rfl, by decide, m2_at 1490 (by decide +kernel) rfl, iwX12, tyX12_ok, nmX12, rfl, rfl⟩
theorem fl_X12_168 : m2_FL RX12 168 12 25 (.int) false := ⟨RX12, TX12, 71, tyX12, rfl, by decide, m2_at 1491 (by decide +kernel) rfl, iwX12, tyX12_ok, nmX12, rfl, rfl⟩
theorem fl_X12_171 : m2_FL RX12 171 12 26 (.int) false := ⟨RX12, TX12, 71, tyX12, rfl, by decide, m2_at 1492 (by decide +kernel) rfl, iwX12, tyX12_ok, nmX12, rfl, rfl⟩
theorem fl_X12_174 : m2_FL RX12 174 12 27 (.int) false := ⟨RX12, TX12, 71, tyX12, rfl, by decide, m2_at 1493 (by decide +kernel) rfl, iwX12, tyX12_ok, nmX12, rfl, rfl⟩
theorem fl_X12_65 : m2_FL RX12 65 12 28 (tyX12 28) true := ⟨RX12, TX12, 71, tyX12, rfl, by decide, m2_at 1494 (by decide +kernel) rfl, iwX12, tyX12_ok, nmX12, rfl, rfl⟩
theorem fl_X12_238 : m2_FL RX12 238 12 29 (.int) false := ⟨RX12, TX12, 71, tyX12, rfl, by decide, m2_at 1495 (by decide +kernel) rfl, iwX12, tyX12_ok, nmX12, rfl, rfl⟩
theorem fl_X12_68 : m2_FL RX12 68 12 30 (.int) false := ⟨RX12, TX12, 71, tyX12, rfl, by decide, m2_at 1496 (by decide +kernel) rfl, iwX12, tyX12_ok, nmX12, rfl, rfl⟩
theorem fl_X12_231 : m2_FL RX12 231 12 31 (.int) false := ⟨RX12, TX12, 71, tyX12, rfl, by decide, m2_at 1497 (by decide +kernel) rfl, iwX12, tyX12_ok, nmX12, rfl, rfl⟩
theorem fl_X12_71 : m2_FL RX12 71 12 32 (tyX12 32) true := ⟨RX12, TX12, 71, tyX12, rfl, by decide, m2_at 1498 (by decide +kernel) rfl, iwX12, tyX12_ok, nmX12, rfl, rfl⟩
theorem fl_X12_74 : m2_FL RX12 74 12 33 (tyX12 33) true := ⟨RX12, TX12, 71, tyX12, rfl, by decide, m2_at 1499 (by decide +kernel) rfl, iwX12, tyX12_ok, nmX12, rfl, rfl⟩
theorem fl_X12_77 : m2_FL RX12 77 12 34 (tyX12 34) true := ⟨RX12, TX12, 71, tyX12, rfl, by decide, m2_at 1500 (by decide +kernel) rfl, iwX12, tyX12_ok, nmX12, rfl, rfl⟩
theorem fl_X12_80 : m2_FL RX12 80 12 35 (tyX12 35) true := ⟨RX12, TX12, 71, tyX12, rfl, by decide, m2_at 1501 (by decide +kernel) rfl, iwX12, tyX12_ok, nmX12, rfl, rfl⟩
theorem fl_X12_83 : m2_FL RX12 83 12 36 (tyX12 36) true := ⟨RX12, TX12, 71, tyX12, rfl, by decide, m2_at 1502 (by decide +kernel) rfl, iwX12, tyX12_ok, nmX12, rfl, rfl⟩
theorem fl_X12_248 : m2_FL RX12 248 12 37 (.int) false := ⟨RX12, TX12, 71, tyX12, rfl, by decide, m2_at 1503 (by decide +kernel) rfl, iwX12, tyX12_ok, nmX12, rfl, rfl⟩
theorem fl_X12_86 : m2_FL RX12 86 12 38 (tyX12 38) true := ⟨RX12, TX12, 71, tyX12, rfl, by decide, m2_at 1504 (by decide +kernel) rfl, iwX12, tyX12_ok, nmX12, rfl, rfl⟩
theorem fl_X12_89 : m2_FL RX12 89 12 39 (tyX12 39) true := ⟨RX12, TX12, 71, tyX12, rfl, by decide, m2_at 1505 (by decide +kernel) rfl, iwX12, tyX12_ok, nmX12, rfl, rfl⟩
theorem fl_X12_92 : m2_FL RX12 92 12 40 (tyX12 40) true := ⟨RX12, TX12, 71, tyX12, rfl, by decide, m2_at 1506 (by decide +kernel) rfl, iwX12, tyX12_ok, nmX12, rfl, rfl⟩
theorem fl_X12_95 : m2_FL RX12 95 12 41 (tyX12 41) true := ⟨RX12, TX12, 71, tyX12, rfl, by decide, m2_at 1507 (by decide +kernel) rfl, iwX12, tyX12_ok, nmX12, rfl, rfl⟩
theorem fl_X12_367 : m2_FL RX12 367 12 42 (.int) false := ⟨RX12, TX12, 71, tyX12, rfl, by decide, m2_at 1508 (by decide +kernel) rfl, iwX12, tyX12_ok, nmX12, rfl, rfl⟩
theorem fl_X12_370 : m2_FL RX12 370 12 43 (.int) false := ⟨RX12, TX12, 71, tyX12, rfl, by decide, m2_at 1509 (by decide +kernel) rfl, iwX12, tyX12_ok, nmX12, rfl, rfl⟩
theorem fl_X12_361 : m2_FL RX12 361 12 44 (.int) false := ⟨RX12, TX12, 71, tyX12, rfl, by decide, m2_at 1510 (by decide +kernel) rfl, iwX12, tyX12_ok, nmX12, rfl, rfl⟩
theorem fl_X12_364 : m2_FL RX12 364 12 45 (.int) false := ⟨RX12, TX12, 71, tyX12, rfl, by decide, m2_at 1511 (by decide +kernel) rfl, iwX12, tyX12_ok, nmX12, rfl, rfl⟩
theorem fl_X12_98 : m2_FL RX12 98 12 46 (tyX12 46) true := ⟨RX12, TX12, 71, tyX12, rfl, by decide, m2_at 1512 (by decide +kernel) rfl, iwX12, tyX12_ok, nmX12, rfl, rfl⟩
theorem fl_X12_101 : m2_FL RX12 101 12 47 (tyX12 47) true := ⟨RX12, TX12, 71, tyX12, rfl, by decide, m2_at 1513 (by decide +kernel) rfl, iwX12, tyX12_ok, nmX12, rfl, rfl⟩
theorem fl_X12_391 : m2_FL RX12 391 12 48 (.int) false := ⟨RX12, TX12, 71, tyX12, rfl, by decide, m2_at 1514 (by decide +kernel) rfl, iwX12, tyX12_ok, nmX12, rfl, rfl⟩
theorem fl_X12_394 : m2_FL RX12 394 12 49 (.int) false := ⟨RX12, TX12, 71, tyX12, rfl, by decide, m2_at 1515 (by decide +kernel) rfl, iwX12, tyX12_ok, nmX12, rfl, rfl⟩
theorem fl_X12_104 : m2_FL RX12 104 12 50 (tyX12 50) true := ⟨RX12, TX12, 71, tyX12, rfl, by decide, m2_at 1516 (by decide +kernel) rfl, iwX12, tyX12_ok, nmX12, rfl, rfl⟩
theorem fl_X12_107 : m2_FL RX12 107 12 51 (tyX12 51) true := ⟨RX12, TX12, 71, tyX12, rfl, by decide, m2_at 1517 (by decide +kernel) rfl, iwX12, tyX12_ok, nmX12, rfl, rfl⟩
theorem fl_X12_400 : m2_FL RX12 400 12 52 (.int) false := ⟨RX12, TX12, 71, tyX12, rfl, by decide, m2_at 1518 (by decide +kernel) rfl, iwX12, tyX12_ok, nmX12, rfl, rfl⟩
theorem fl_X12_110 : m2_FL RX12 110 12 53 (tyX12 53) true := ⟨RX12, TX12, 71, tyX12, rfl, by decide, m2_at 1519 (by decide +kernel) rfl, iwX12, tyX12_ok, nmX12, rfl, rfl⟩
theorem fl_X12_113 : m2_FL RX12 113 12 54 (tyX12 54) true := ⟨RX12, TX12, 71, tyX12, rfl, by decide, m2_at 1520 (by decide +kernel) rfl, iwX12, tyX12_ok, nmX12, rfl, rfl⟩
theorem fl_X12_116 : m2_FL RX12 116 12 55 (tyX12 55) true := ⟨RX12, TX12, 71, tyX12, rfl, by decide, m2_at 1521 (by decide +kernel) rfl, iwX12, tyX12_ok, nmX12, rfl, rfl⟩
theorem fl_X12_119 : m2_FL RX12 119 12 56 (tyX12 56) true := ⟨RX12, TX12, 71, tyX12, rfl, by decide, m2_at 1522 (by decide +kernel) rfl, iwX12, tyX12_ok, nmX12, rfl, rfl⟩
theorem fl_X12_410 : m2_FL RX12 410 12 57 (.int) false := ⟨RX12, TX12, 71, tyX12, rfl, by decide, m2_at 1523 (by decide +kernel) rfl, iwX12, tyX12_ok, nmX12, rfl, rfl⟩
theorem fl_X12_413 : m2_FL RX12 413 12 58 (.int) false := ⟨RX12, TX12, 71, tyX12, rfl, by decide, m2_at 1524 (by decide +kernel) rfl, iwX12, tyX12_ok, nmX12, rfl, rfl⟩
theorem fl_X12_429 : m2_FL RX12 429 12 59 (.int) false := ⟨RX12, TX12, 71, tyX12, rfl, by decide, m2_at 1525 (by decide +kernel) rfl, iwX12, tyX12_ok, nmX12, rfl, rfl⟩
theorem fl_X12_422 : m2_FL RX12 422 12 60 (.int) false := ⟨RX12, TX12, 71, tyX12, rfl, by decide, m2_at 1526 (by decide +kernel) rfl, iwX12, tyX12_ok, nmX12, rfl, rfl⟩
theorem fl_X12_416 : m2_FL RX12 416 12 61 (.int) false := ⟨RX12, TX12, 71, tyX12, rfl, by decide, m2_at 1527 (by decide +kernel) rfl, iwX12, tyX12_ok, nmX12, rfl, rfl⟩
theorem fl_X12_419 : m2_FL RX12 419 12 62 (.int) false := ⟨RX12, TX12, 71, tyX12, rfl, by decide, m2_at 1528 (by decide +kernel) rfl, iwX12, tyX12_ok, nmX12, rfl, rfl⟩
theorem fl_X12_122 : m2_FL RX12 122 12 63 (tyX12 63) true := ⟨RX12, TX12, 71, tyX12, rfl, by decide, m2_at 1529 (by decide +kernel) rfl, iwX12, tyX12_ok, nmX12, rfl, rfl⟩
theorem fl_X12_436 : m2_FL RX12 436 12 64 (.int) false := ⟨RX12, TX12, 71, tyX12, rfl, by decide, m2_at 1530 (by decide +kernel) rfl, iwX12, tyX12_ok, nmX12, rfl, rfl⟩
theorem fl_X12_125 : m2_FL RX12 125 12 65 (tyX12 65) true := ⟨RX12, TX12, 71, tyX12, rfl, by decide, m2_at 1531 (by decide +kernel) rfl, iwX12, tyX12_ok, nmX12, rfl, rfl⟩
theorem fl_X12_128 : m2_FL RX12 128 12 66 (tyX12 66) true := ⟨RX12, TX12, 71, tyX12, rfl, by decide, m2_at 1532 (by decide +kernel) rfl, iwX12, tyX12_ok, nmX12, rfl, rfl⟩
theorem fl_X12_131 : m2_FL RX12 131 12 67 (tyX12 67) true := ⟨RX12, TX12, 71, tyX12, rfl, by decide, m2_at 1533 (by decide +kernel) rfl, iwX12, tyX12_ok, nmX12, rfl, rfl⟩
theorem fl_X12_134 : m2_FL RX12 134 12 68 (tyX12 68) true := ⟨RX12, TX12, 71, tyX12, rfl, by decide, m2_at 1534 (by decide +kernel) rfl, iwX12, tyX12_ok, nmX12, rfl, rfl⟩
theorem fl_X12_137 : m2_FL RX12 137 12 69 (tyX12 69) true := ⟨RX12, TX12, 71, tyX12, rfl, by decide, m2_at 1535 (by decide +kernel) rfl, iwX12, tyX12_ok, nmX12, rfl, rfl⟩
theorem fl_X12_140 : m2_FL RX12 140 12 70 (tyX12 70) true := ⟨RX12, TX12, 71, tyX12, rfl, by decide, m2_at 1536 (by decide +kernel) rfl, iwX12, tyX12_ok, nmX12, rfl, rfl⟩
