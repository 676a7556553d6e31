theorem shp3_dec : ∀ i, i < 244 → (shp3 i).2 < 2147483648 := by decide +kernel
theorem shp3_small (i : Nat) : (shp3 i).2 < 2147483648 := by
  by_cases h : 244 ≤ i
  · unfold shp3
    rw [Nat.ble_eq_true_of_le h]
    show (0 : Nat) < 2147483648
    decide
  · exact shp3_dec i (by omega)
theorem shp_dec : ∀ i, i < 233 → (shp 0 i).2 < 2147483648 := by decide +kernel
/-- the first 233 cells are the same in every mode -/
theorem shp_base (md : Nat) {i : Nat} (h : i < 233) : shp md i = shp 0 i := by
  have e : Nat.ble 233 i = false := (Bool.not_eq_true _).mp (fun z => by have := Nat.le_of_ble_eq_true z; omega)
  unfold shp
  rw [e]
  rfl
theorem shp_high (md : Nat) {i : Nat} (h : 233 ≤ i) : shp md i = shp2 md i := by
  unfold shp
  rw [Nat.ble_eq_true_of_le h]
  rfl
theorem shp_small (md i : Nat) : (shp md i).2 < 2147483648 := by
  by_cases h : i < 233
  · rw [shp_base md h]; exact shp_dec i h
  · rw [shp_high md (by omega)]
    unfold shp2
    split
    · exact shp3_small i
    · exact shp3_small i
    all_goals (unfold cond; split <;> decide)
def okTy (t : FieldType) : Bool := match t with
  | .int => true
  | .boolean => true
  | .object _ => true
  | .array _ => true
  | _ => false
theorem cl_kd : ∀ {c : Nat} {q : vw_C}, classes[c]? = some q → ∀ k, k < q.2.2 → okTy (tyN c k) = true
  | 0, _, h => by cases h; exact (by decide +kernel)
  | 1, _, h => by cases h; exact (by decide +kernel)
  | 2, _, h => by cases h; exact (by decide +kernel)
  | 3, _, h => by cases h; exact (by decide +kernel)
  | 4, _, h => by cases h; exact (by decide +kernel)
  | 5, _, h => by cases h; exact (by decide +kernel)
  | 6, _, h => by cases h; exact (by decide +kernel)
  | 7, _, h => by cases h; exact (by decide +kernel)
  | 8, _, h => by cases h; exact (by decide +kernel)
  | 9, _, h => by cases h; exact (by decide +kernel)
  | _ + 10, _, h => by simp [classes] at h
