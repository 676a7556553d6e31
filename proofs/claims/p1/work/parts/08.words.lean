/-- the words that stay true under every warming -/
def gw : List Cond := lw_tbl.filter goodWord
theorem gw_at {w : Cond} (i : Nat) (h : lw_tbl[i]? = some w) (hg : goodWord w = true) : w ∈ gw := List.mem_filter.mpr ⟨List.mem_of_getElem? h, hg⟩
theorem gw_good : GoodIn lw_tbl gw := fun w hw => ⟨(List.mem_filter.mp hw).1, good_of_word (List.mem_filter.mp hw).2⟩
theorem gw_self : GoodIn gw gw := fun w hw => ⟨hw, good_of_word (List.mem_filter.mp hw).2⟩
theorem gw_in (ws : List Cond) (ps : List Nat) (hp : ps.filterMap (fun i => lw_tbl[i]?) = ws) (h : ws.all goodWord = true) : ∀ w ∈ ws, w ∈ gw := by
  intro w hw
  have h1 := List.all_eq_true.mp h w hw
  rw [← hp] at hw
  obtain ⟨i, -, hi⟩ := List.mem_filterMap.mp hw
  exact gw_at i hi h1
set_option maxRecDepth 20000 in
theorem inX0 : ∀ w ∈ u_ws RX0 TX0 7, w ∈ gw := gw_in _ [420, 422, 424, 426, 428, 430, 432] (by decide +kernel) (by decide +kernel)
set_option maxRecDepth 20000 in
theorem inX1 : ∀ w ∈ u_ws RX1 TX1 10, w ∈ gw := gw_in _ [318, 320, 322, 324, 326, 328, 330, 332, 334, 336] (by decide +kernel) (by decide +kernel)
set_option maxRecDepth 20000 in
theorem inX2 : ∀ w ∈ u_ws RX2 TX2 4, w ∈ gw := gw_in _ [390, 392, 394, 396] (by decide +kernel) (by decide +kernel)
set_option maxRecDepth 20000 in
theorem inX3 : ∀ w ∈ u_ws RX3 TX3 11, w ∈ gw := gw_in _ [461, 463, 465, 467, 469, 471, 473, 475, 477, 479, 481] (by decide +kernel) (by decide +kernel)
set_option maxRecDepth 20000 in
theorem inX4 : ∀ w ∈ u_ws RX4 TX4 6, w ∈ gw := gw_in _ [144, 146, 148, 150, 152, 154] (by decide +kernel) (by decide +kernel)
set_option maxRecDepth 20000 in
theorem inX5 : ∀ w ∈ u_ws RX5 TX5 17, w ∈ gw := gw_in _ [245, 247, 249, 251, 253, 255, 257, 259, 261, 263, 265, 267, 269, 271, 273, 275, 277] (by decide +kernel) (by decide +kernel)
set_option maxRecDepth 20000 in
theorem inX6 : ∀ w ∈ u_ws RX6 TX6 17, w ∈ gw := gw_in _ [578, 580, 582, 584, 586, 588, 590, 592, 594, 596, 598, 600, 602, 604, 606, 608, 610] (by decide +kernel) (by decide +kernel)
set_option maxRecDepth 20000 in
theorem inX7 : ∀ w ∈ u_ws RX7 TX7 11, w ∈ gw := gw_in _ [356, 358, 360, 362, 364, 366, 368, 370, 372, 374, 376] (by decide +kernel) (by decide +kernel)
set_option maxRecDepth 20000 in
theorem inX8 : ∀ w ∈ u_ws RX8 TX8 14, w ∈ gw := gw_in _ [499, 501, 503, 505, 507, 509, 511, 513, 515, 517, 519, 521, 523, 525] (by decide +kernel) (by decide +kernel)
set_option maxRecDepth 20000 in
theorem inX9 : ∀ w ∈ u_ws RX9 TX9 47, w ∈ gw := gw_in _ [1683, 1685, 1687, 1689, 1691, 1693, 1695, 1697, 1699, 1701, 1703, 1705, 1707, 1709, 1711, 1713, 1715, 1717, 1719, 1721, 1723, 1725, 1727, 1729, 1731, 1733, 1735, 1737, 1739, 1741, 1743, 1745, 1747, 1749, 1751, 1753, 1755, 1757, 1759, 1761, 1763, 1765, 1767, 1769, 1771, 1773, 1775] (by decide +kernel) (by decide +kernel)
theorem cl_in : ∀ {c : Nat} {q : vw_C}, classes[c]? = some q → ∀ w ∈ u_ws q.1 q.2.1 q.2.2, w ∈ gw
  | 0, _, h => by cases h; exact inX0
  | 1, _, h => by cases h; exact inX1
  | 2, _, h => by cases h; exact inX2
  | 3, _, h => by cases h; exact inX3
  | 4, _, h => by cases h; exact inX4
  | 5, _, h => by cases h; exact inX5
  | 6, _, h => by cases h; exact inX6
  | 7, _, h => by cases h; exact inX7
  | 8, _, h => by cases h; exact inX8
  | 9, _, h => by cases h; exact inX9
  | _ + 10, _, h => by simp [classes] at h
theorem cl_nm : ∀ {c : Nat} {q : vw_C}, classes[c]? = some q → ∀ a, a < q.2.2 → ∀ b, b < q.2.2 → a ≠ b → (q.2.1 a).2.1 ≠ (q.2.1 b).2.1
  | 0, _, h => by cases h; exact nmX0
  | 1, _, h => by cases h; exact nmX1
  | 2, _, h => by cases h; exact nmX2
  | 3, _, h => by cases h; exact nmX3
  | 4, _, h => by cases h; exact nmX4
  | 5, _, h => by cases h; exact nmX5
  | 6, _, h => by cases h; exact nmX6
  | 7, _, h => by cases h; exact nmX7
  | 8, _, h => by cases h; exact nmX8
  | 9, _, h => by cases h; exact nmX9
  | _ + 10, _, h => by simp [classes] at h
theorem cl_ty : ∀ {c : Nat} {q : vw_C}, classes[c]? = some q → ∀ k, k < q.2.2 → parseFieldDescriptor (q.2.1 k).2.2.1 = some (tyN c k)
  | 0, _, h => by cases h; exact tyX0_ok
  | 1, _, h => by cases h; exact tyX1_ok
  | 2, _, h => by cases h; exact tyX2_ok
  | 3, _, h => by cases h; exact tyX3_ok
  | 4, _, h => by cases h; exact tyX4_ok
  | 5, _, h => by cases h; exact tyX5_ok
  | 6, _, h => by cases h; exact tyX6_ok
  | 7, _, h => by cases h; exact tyX7_ok
  | 8, _, h => by cases h; exact tyX8_ok
  | 9, _, h => by cases h; exact tyX9_ok
  | _ + 10, _, h => by simp [classes] at h
