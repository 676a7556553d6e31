/-! calls that go through a fresh day -/
set_option maxRecDepth 1000000 in
theorem kd_1 : okW 2 1 [rI 0 1] [] = true := by decide +kernel
set_option maxRecDepth 1000000 in
theorem kd_10 : okU 0 sC sD 10 [rI 0 2, rI 0 96] [] = true := by decide +kernel
set_option maxRecDepth 1000000 in
theorem kd_11 : (okU 0 sC sD 11 [rI 0 2, rI 0 6] [] && (okU 0 sC sD 13 [rI 0 96] [] && (okU 0 sC sD 36 [rI 0 2] [] && okU 0 sC sD 38 [rI 0 2] []))) = true := by decide +kernel
section Dy
variable {scX : Nat → Int}
theorem g_1 (hI : ∀ j, -2147483648 ≤ scX j ∧ scX j ≤ 2147483647) (hop : b32 (fun p q => p &&& q) (scX 0) 63 = 1) : Good scX := by
  by_cases c1 : 0 ≤ scX 1 ∧ scX 1 ≤ 0
  · exact okW_run hI (by decide) hop rfl _ _ kd_1 ⟨cov_I (hi := 0) (by decide) c1, trivial⟩ trivial
  · exact g_1_no hI hop c1
theorem g_10 (hI : ∀ j, -2147483648 ≤ scX j ∧ scX j ≤ 2147483647) (hop : b32 (fun p q => p &&& q) (scX 0) 63 = 10) : Good scX := by
  by_cases c : (0 ≤ scX 1 ∧ scX 1 ≤ 1) ∧ (0 ≤ scX 2 ∧ scX 2 ≤ 95)
  · exact okU_run hI (by decide) sC_ok sD_ok hop rfl _ _ kd_10 ⟨cov_I (hi := 1) (by decide) c.1, cov_I (hi := 95) (by decide) c.2, trivial⟩ trivial
  · exact g_10_no hI hop c
theorem g_11 (hI : ∀ j, -2147483648 ≤ scX j ∧ scX j ≤ 2147483647) (hop : b32 (fun p q => p &&& q) (scX 0) 63 = 11) : Good scX := by
  by_cases c : (0 ≤ scX 1 ∧ scX 1 ≤ 1) ∧ (0 ≤ scX 2 ∧ scX 2 ≤ 5)
  · exact okU_run hI (by decide) sC_ok sD_ok hop rfl _ _ (and_tt kd_11).1 ⟨cov_I (hi := 1) (by decide) c.1, cov_I (hi := 5) (by decide) c.2, trivial⟩ trivial
  · exact g_11_no hI hop c
theorem g_12 (hI : ∀ j, -2147483648 ≤ scX j ∧ scX j ≤ 2147483647) (hop : b32 (fun p q => p &&& q) (scX 0) 63 = 12) : Good scX := by
  by_cases c : 0 ≤ scX 1 ∧ scX 1 ≤ 5
  · exact okU_run hI (by decide) sC_ok sD_ok hop rfl _ _ kd_12 ⟨cov_I (hi := 5) (by decide) c, trivial⟩ trivial
  · exact g_12_no hI hop c
theorem g_13 (hI : ∀ j, -2147483648 ≤ scX j ∧ scX j ≤ 2147483647) (hop : b32 (fun p q => p &&& q) (scX 0) 63 = 13) : Good scX := by
  by_cases c : 0 ≤ scX 1 ∧ scX 1 ≤ 95
  · exact okU_run hI (by decide) sC_ok sD_ok hop rfl _ _ (and_tt (and_tt kd_11).2).1 ⟨cov_I (hi := 95) (by decide) c, trivial⟩ trivial
  · exact g_13_no hI hop c
theorem g_36 (hI : ∀ j, -2147483648 ≤ scX j ∧ scX j ≤ 2147483647) (hop : b32 (fun p q => p &&& q) (scX 0) 63 = 36) : Good scX := by
  by_cases c : 0 ≤ scX 1 ∧ scX 1 ≤ 1
  · exact okU_run hI (by decide) sC_ok sD_ok hop rfl _ _ (and_tt (and_tt (and_tt kd_11).2).2).1 ⟨cov_I (hi := 1) (by decide) c, trivial⟩ trivial
  · exact g_36_no hI hop c
theorem g_38 (hI : ∀ j, -2147483648 ≤ scX j ∧ scX j ≤ 2147483647) (hop : b32 (fun p q => p &&& q) (scX 0) 63 = 38) : Good scX := by
  by_cases c : 0 ≤ scX 1 ∧ scX 1 ≤ 1
  · exact okU_run hI (by decide) sC_ok sD_ok hop rfl _ _ (and_tt (and_tt (and_tt kd_11).2).2).2 ⟨cov_I (hi := 1) (by decide) c, trivial⟩ trivial
  · exact g_38_no hI hop c
end Dy
