/-! the eel: no sluice of a fresh plan is open -/
set_option maxRecDepth 1000000 in
theorem kd_30a : okU 0 sC no_st 30 [rI 0 1, rT 0 8] [] = true := by decide +kernel
set_option maxRecDepth 1000000 in
theorem kd_30b : okU 0 sC no_st 30 [rI 1 1, rT 0 8] [] = true := by decide +kernel
theorem g_30 {scX : Nat → Int} (hI : ∀ j, -2147483648 ≤ scX j ∧ scX j ≤ 2147483647) (hop : b32 (fun p q => p &&& q) (scX 0) 63 = 30) : Good scX := by
  by_cases c : (0 ≤ scX 1 ∧ scX 1 ≤ 1) ∧ (0 ≤ scX 2 ∧ scX 2 ≤ 8)
  · by_cases c1 : scX 1 = 0
    · have c2 : 0 ≤ scX 1 ∧ scX 1 ≤ 0 := ⟨by omega, by omega⟩
      exact okU_run hI (by decide) sC_ok (fun _ => sb_no) hop rfl _ _ kd_30a ⟨cov_I (hi := 0) (by decide) c2, cov_T c.2, trivial⟩ trivial
    · have c2 : 1 ≤ scX 1 ∧ scX 1 ≤ 1 := ⟨by omega, by omega⟩
      exact okU_run hI (by decide) sC_ok (fun _ => sb_no) hop rfl _ _ kd_30b ⟨cov_I (hi := 1) (by decide) c2, cov_T c.2, trivial⟩ trivial
  · exact g_30_no hI hop c
