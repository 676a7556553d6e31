/-! THE STEP IS SOUND: what the machine does from a picture is closed under it -/
theorem cl_new : ∀ {c : Nat} {q : vw_C}, classes[c]? = some q → Cond.instantiable q.1 q.2.2 ∈ gw ∧ Cond.initialized q.1 ∈ gw := by
  have h1 : (classes.all fun q => decide (Cond.instantiable q.1 q.2.2 ∈ lw_tbl) && decide (Cond.initialized q.1 ∈ lw_tbl)) = true := by decide +kernel
  intro c q hq
  have h2 := List.all_eq_true.mp h1 q (List.mem_of_getElem? hq)
  simp only [Bool.and_eq_true, decide_eq_true_eq] at h2
  exact ⟨List.mem_filter.mpr ⟨h2.1, rfl⟩, List.mem_filter.mpr ⟨h2.2, rfl⟩⟩
theorem ar_words : ∀ a, a ≤ 2 → Cond.arrayClass (arT a) ∈ gw := by
  intro a ha
  rcases (show a = 0 ∨ a = 1 ∨ a = 2 by omega) with rfl | rfl | rfl
  · exact List.mem_filter.mpr ⟨(by decide +kernel : Cond.arrayClass .int ∈ lw_tbl), rfl⟩
  · exact List.mem_filter.mpr ⟨(by decide +kernel : Cond.arrayClass .byte ∈ lw_tbl), rfl⟩
  · exact List.mem_filter.mpr ⟨(by decide +kernel : Cond.arrayClass .long ∈ lw_tbl), rfl⟩
theorem nat_words : ∀ w ∈ ([.static Lib.Math.max.name, .initialized "java/lang/Math", .code Lib.Math.max.name Lib.Math.max.code 2 (some .int), .static Lib.Math.min.name, .code Lib.Math.min.name Lib.Math.min.code 2 (some .int), .native arraycopyName, .static arraycopyName, .initialized "java/lang/System", .instanceMethod Lib.objectInit, .code Lib.objectInit ⟨#[0xb1]⟩ 1 none] : List Cond), w ∈ gw := by
  have h : ([.static Lib.Math.max.name, .initialized "java/lang/Math", .code Lib.Math.max.name Lib.Math.max.code 2 (some .int), .static Lib.Math.min.name, .code Lib.Math.min.name Lib.Math.min.code 2 (some .int), .native arraycopyName, .static arraycopyName, .initialized "java/lang/System", .instanceMethod Lib.objectInit, .code Lib.objectInit ⟨#[0xb1]⟩ 1 none] : List Cond).all (fun w => decide (w ∈ lw_tbl) && goodWord w) = true := by decide +kernel
  intro w hw
  have h2 := List.all_eq_true.mp h w hw
  simp only [Bool.and_eq_true, decide_eq_true_eq] at h2
  exact List.mem_filter.mpr h2
theorem ob_dec : ∀ i, i < 233 → ∀ c, c < 10 → (shp 0 i).1 = 10 + c → (classes[c]?).map (fun q => q.2.2) = some (shp 0 i).2 := by decide +kernel
theorem ob3_dec : ∀ i, i < 244 → ∀ c, c < 10 → (shp3 i).1 = 10 + c → (classes[c]?).map (fun q => q.2.2) = some (shp3 i).2 := by decide +kernel
theorem cl_lt {c : Nat} {q : vw_C} (h : classes[c]? = some q) : c < 10 := (List.getElem?_eq_some_iff.mp h).1
/-- an object's slots are its class's fields -/
theorem shp_obj {md c : Nat} {C : String} {T : u_T} {n : Nat} (hc : classes[c]? = some (C, T, n)) : ∀ i, (shp md i).1 = 10 + c → (shp md i).2 = n := by
  intro i hi
  have hc10 := cl_lt hc
  have key : ∀ k : Nat, (classes[c]?).map (fun q => q.2.2) = some k → k = n := fun k hk => by
    rw [hc] at hk
    exact (Option.some.inj hk).symm
  have h3 : ∀ j, (shp3 j).1 = 10 + c → (shp3 j).2 = n := fun j hj => by
    by_cases hl : j < 244
    · exact key _ (ob3_dec j hl c hc10 hj)
    · unfold shp3 at hj
      rw [Nat.ble_eq_true_of_le (show 244 ≤ j by omega)] at hj
      have : (8 : Nat) = 10 + c := hj
      omega
  by_cases hl : i < 233
  · rw [shp_base md hl] at hi ⊢
    exact key _ (ob_dec i hl c hc10 hi)
  · rw [shp_high md (by omega)] at hi ⊢
    unfold shp2 at hi ⊢
    split at hi
    · exact h3 i hi
    · exact h3 i hi
    · exfalso
      cases hb : Nat.beq i 233 <;> rw [hb] at hi
      · have : (8 : Nat) = 10 + c := hi
        omega
      · have : (0 : Nat) = 10 + c := hi
        omega
    · exfalso
      cases hb : Nat.beq i 233 <;> rw [hb] at hi
      · have : (8 : Nat) = 10 + c := hi
        omega
      · have : (0 : Nat) = 10 + c := hi
        omega
    · exfalso
      cases hb : Nat.beq i 233 <;> rw [hb] at hi
      · have : (8 : Nat) = 10 + c := hi
        omega
      · have : (9 : Nat) = 10 + c := hi
        omega
theorem sm_dec : ∀ i, i < 233 → (shp 0 i).2 ≤ 10000000 := by decide +kernel
theorem sm3_dec : ∀ i, i < 244 → (shp3 i).2 ≤ 10000000 := by decide +kernel
theorem shp_sm (md i : Nat) : (shp md i).2 ≤ 10000000 := by
  have h3 : ∀ j, (shp3 j).2 ≤ 10000000 := fun j => by
    by_cases hl : j < 244
    · exact sm3_dec j hl
    · unfold shp3
      rw [Nat.ble_eq_true_of_le (show 244 ≤ j by omega)]
      show (0 : Nat) ≤ _
      omega
  by_cases hl : i < 233
  · rw [shp_base md hl]; exact sm_dec i hl
  · rw [shp_high md (by omega)]
    unfold shp2
    split
    · exact h3 i
    · exact h3 i
    all_goals (unfold cond; split <;> decide)
