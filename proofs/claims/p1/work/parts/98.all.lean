/-! all calls -/
theorem and63_b (x : Int) : 0 ≤ b32 (fun p q => p &&& q) x 63 ∧ b32 (fun p q => p &&& q) x 63 ≤ 63 := by
  have e : ((Int32.ofInt x &&& Int32.ofInt 63).toBitVec).toNat ≤ 63 := by
    rw [Int32.toBitVec_and, BitVec.toNat_and]; exact Nat.and_le_right
  have k : 0 ≤ ((Int32.ofInt x &&& Int32.ofInt 63).toBitVec).toInt ∧ ((Int32.ofInt x &&& Int32.ofInt 63).toBitVec).toInt ≤ 63 := by
    rw [BitVec.toInt_eq_toNat_cond]
    split
    · omega
    · omega
  exact k
theorem all_good {scX : Nat → Int} (hI : ∀ j, -2147483648 ≤ scX j ∧ scX j ≤ 2147483647) : Good scX := by
  have h := and63_b (scX 0)
  obtain ⟨k, hk⟩ := Int.eq_ofNat_of_zero_le h.1
  rw [hk] at h
  have hk64 : k < 64 := by omega
  match k, hk64, hk with
  | 0, _, hop => exact g_0 hI hop
  | 1, _, hop => exact g_1 hI hop
  | 2, _, hop => exact g_2 hI hop
  | 3, _, hop => exact g_3 hI hop
  | 4, _, hop => exact g_4 hI hop
  | 5, _, hop => exact g_5 hI hop
  | 6, _, hop => exact g_6 hI hop
  | 7, _, hop => exact g_7 hI hop
  | 8, _, hop => exact g_8 hI hop
  | 9, _, hop => exact g_9 hI hop
  | 10, _, hop => exact g_10 hI hop
  | 11, _, hop => exact g_11 hI hop
  | 12, _, hop => exact g_12 hI hop
  | 13, _, hop => exact g_13 hI hop
  | 14, _, hop => exact g_14 hop
  | 15, _, hop => exact g_15 hI hop
  | 16, _, hop => exact g_16 hop
  | 17, _, hop => exact g_17 hI hop
  | 18, _, hop => exact g_18 hI hop
  | 19, _, hop => exact g_19 hI hop
  | 20, _, hop => exact g_20 hop
  | 21, _, hop => exact g_21 hI hop
  | 22, _, hop => exact g_22 hop
  | 23, _, hop => exact g_23 hI hop
  | 24, _, hop => exact g_24 hop
  | 25, _, hop => exact g_25 hop
  | 26, _, hop => exact g_26 hI hop
  | 27, _, hop => exact g_27 hI hop
  | 28, _, hop => exact g_28 hI hop
  | 29, _, hop => exact g_29b bitOk_15 hI hop
  | 30, _, hop => exact g_30 hI hop
  | 31, _, hop => exact g_31 hI hop
  | 32, _, hop => exact g_32 hI hop
  | 33, _, hop => exact g_33 hI hop
  | 34, _, hop => exact g_34 hI hop
  | 35, _, hop => exact g_35 hI hop
  | 36, _, hop => exact g_36 hI hop
  | 37, _, hop => exact g_37 hI hop
  | 38, _, hop => exact g_38 hI hop
  | 39, _, hop => exact g_39 hI hop
  | 40, _, hop => exact g_40 hI hop
  | 41, _, hop => exact g_41 hI hop
  | 42, _, hop => exact g_42 hI hop
  | 43, _, hop => exact g_43 hI hop
  | 44, _, hop => exact g_44 hI hop
  | 45, _, hop => exact g_45 hI hop
  | 46, _, hop => exact g_46 hI hop
  | 47, _, hop => exact g_47 hI hop
  | 48, _, hop => exact g_48 hI hop
  | 49, _, hop => exact g_49 hI hop
  | 50, _, hop => exact g_50 hI hop
  | 51, _, hop => exact g_51 hI hop
  | 52, _, hop => exact g_52 hI hop
  | 53, _, hop => exact g_53 hI hop
  | 54, _, hop => exact g_54 hI hop
  | 55, _, hop => exact g_55 hI hop
  | 56, _, hop => exact g_56 hI hop
  | 57, _, hop => exact g_57 hI hop
  | 58, _, hop => exact g_58 hI hop
  | 59, _, hop => exact g_59 hI hop
  | 60, _, hop => exact g_60 hI hop
  | 61, _, hop => exact g_61 hI hop
  | 62, _, hop => exact g_62 hI hop
  | 63, _, hop => exact g_63 hI hop
  | (n + 64), h, _ => exact absurd h (by omega)
