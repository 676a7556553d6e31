/-! the class's boxes: what bound leaves, and that all that can be opened stays in them -/
def boxS (A : tF) (k : Nat) : Prop := A 239 (k + 1) = gC 20 (g0 (A 239 k - A 238 k * 1) + cmB k) ∧ A 240 (k + 1) = gC 20 (g0 (A 240 k - A 237 k * 1) + cmB k) ∧ A 241 (k + 1) = gC 20 (g0 (A 241 k - A 238 (96 + k) * 1) + gC (A 239 k) (A 237 k * 1)) ∧ A 242 (k + 1) = gC 20 (g0 (A 242 k - A 237 (96 + k) * 1) + gC (A 240 k) (A 238 k * 1))
def boxB (A : tF) (k : Nat) : Prop := (0 ≤ A 239 k ∧ A 239 k ≤ A 240 k ∧ A 240 k ≤ 20) ∧ 0 ≤ A 241 k ∧ A 241 k ≤ A 242 k ∧ A 242 k ≤ 20
def rowR (A : tF) : Prop := ∀ k, k < 192 → 0 ≤ A 237 k ∧ A 237 k ≤ A 238 k ∧ A 238 k ≤ 3
def bK (a0 : tF) (A : tF) (q : Int) : Prop := (∀ o, o ≠ 239 → o ≠ 240 → o ≠ 241 → o ≠ 242 → A o = a0 o) ∧ (A 239 0 = 12 ∧ A 240 0 = 12 ∧ A 241 0 = 10 ∧ A 242 0 = 10) ∧ (∀ k : Nat, (k : Int) < q → boxS A k) ∧ ∀ k : Nat, (k : Int) ≤ q → boxB A k
theorem onB_o {A : tF} {q : Int} {o : Nat} (h1 : o ≠ 239) (h2 : o ≠ 240) (h3 : o ≠ 241) (h4 : o ≠ 242) : onB q A o = A o := by
  unfold onB
  rw [up2_row h4, up2_row h3, up2_row h2, up2_row h1]
theorem onB_0 {A : tF} {k j : Nat} : onB k A 239 j = if j = k + 1 then gC 20 (g0 (A 239 k - A 238 k * 1) + cmB k) else A 239 j := by
  unfold onB
  rw [up2_row (by decide), up2_row (by decide), up2_row (by decide), up2_if]
  by_cases h : j = k + 1
  · rw [if_pos h, if_pos ⟨rfl, h⟩]; rfl
  · rw [if_neg h, if_neg (fun z => h z.2)]
theorem onB_1 {A : tF} {k j : Nat} : onB k A 240 j = if j = k + 1 then gC 20 (g0 (A 240 k - A 237 k * 1) + cmB k) else A 240 j := by
  unfold onB
  rw [up2_row (by decide), up2_row (by decide), up2_if]
  by_cases h : j = k + 1
  · rw [if_pos h, if_pos ⟨rfl, h⟩]; rfl
  · rw [if_neg h, if_neg (fun z => h z.2), up2_row (by decide)]
theorem onB_2 {A : tF} {k j : Nat} : onB k A 241 j = if j = k + 1 then gC 20 (g0 (A 241 k - A 238 (96 + k) * 1) + gC (A 239 k) (A 237 k * 1)) else A 241 j := by
  unfold onB
  rw [up2_row (by decide), up2_if]
  by_cases h : j = k + 1
  · rw [if_pos h, if_pos ⟨rfl, h⟩]; rfl
  · rw [if_neg h, if_neg (fun z => h z.2), up2_row (by decide), up2_row (by decide)]
theorem onB_3 {A : tF} {k j : Nat} : onB k A 242 j = if j = k + 1 then gC 20 (g0 (A 242 k - A 237 (96 + k) * 1) + gC (A 240 k) (A 238 k * 1)) else A 242 j := by
  unfold onB
  rw [up2_if]
  by_cases h : j = k + 1
  · rw [if_pos h, if_pos ⟨rfl, h⟩]; rfl
  · rw [if_neg h, if_neg (fun z => h z.2), up2_row (by decide), up2_row (by decide), up2_row (by decide)]
theorem bK_step {a0 A : tF} (hR : rowR a0) {q : Int} (h0 : 0 ≤ q) (h1 : q + 1 < 96) (h : bK a0 A q) : bK a0 (onB q A) (q + 1) := by
  obtain ⟨k, rfl⟩ := Int.eq_ofNat_of_zero_le h0
  obtain ⟨c1, c2, c3, c4⟩ := h
  have bk := c4 k (Int.le_refl _)
  have e7 : A 237 = a0 237 := c1 237 (by decide) (by decide) (by decide) (by decide)
  have e8 : A 238 = a0 238 := c1 238 (by decide) (by decide) (by decide) (by decide)
  have r1 := hR k (by omega)
  have r2 := hR (96 + k) (by omega)
  rw [← e7, ← e8] at r1 r2
  have f7 : onB k A 237 = A 237 := onB_o (by decide) (by decide) (by decide) (by decide)
  have f8 : onB k A 238 = A 238 := onB_o (by decide) (by decide) (by decide) (by decide)
  have bc := cmB_b (q := (k : Int))
  refine ⟨fun o z1 z2 z3 z4 => ?_, ⟨?_, ?_, ?_, ?_⟩, fun j hj => ?_, fun j hj => ?_⟩
  · rw [onB_o z1 z2 z3 z4]
    exact c1 o z1 z2 z3 z4
  · rw [onB_0, if_neg (by omega)]; exact c2.1
  · rw [onB_1, if_neg (by omega)]; exact c2.2.1
  · rw [onB_2, if_neg (by omega)]; exact c2.2.2.1
  · rw [onB_3, if_neg (by omega)]; exact c2.2.2.2
  · unfold boxS
    rw [f7, f8, onB_0, onB_0, onB_1, onB_1, onB_2, onB_2, onB_3, onB_3]
    rw [if_neg (by omega : ¬ j = k + 1), if_neg (by omega : ¬ j = k + 1), if_neg (by omega : ¬ j = k + 1), if_neg (by omega : ¬ j = k + 1)]
    by_cases e : j = k
    · subst e
      rw [if_pos rfl, if_pos rfl, if_pos rfl, if_pos rfl]
      exact ⟨rfl, rfl, rfl, rfl⟩
    · rw [if_neg (by omega : ¬ j + 1 = k + 1), if_neg (by omega : ¬ j + 1 = k + 1), if_neg (by omega : ¬ j + 1 = k + 1), if_neg (by omega : ¬ j + 1 = k + 1)]
      exact c3 j (by omega)
  · unfold boxB
    rw [onB_0, onB_1, onB_2, onB_3]
    by_cases e : j = k + 1
    · rw [if_pos e, if_pos e, if_pos e, if_pos e]
      unfold boxB at bk
      simp only [gC_mn, g0_mx]
      omega
    · rw [if_neg e, if_neg e, if_neg e, if_neg e]
      exact c4 j (by omega)
theorem bK_0 (a0 : tF) : bK a0 (st0B a0) 0 := by
  have e0 : ∀ j, st0B a0 239 j = if j = 0 then 12 else a0 239 j := fun j => by
    unfold st0B
    rw [up2_row (by decide), up2_row (by decide), up2_row (by decide), up2_if]
    by_cases h : j = 0
    · rw [if_pos h, if_pos ⟨rfl, h⟩]; rfl
    · rw [if_neg h, if_neg (fun z => h z.2)]
  have e1 : ∀ j, st0B a0 240 j = if j = 0 then 12 else a0 240 j := fun j => by
    unfold st0B
    rw [up2_row (by decide), up2_row (by decide), up2_if]
    by_cases h : j = 0
    · rw [if_pos h, if_pos ⟨rfl, h⟩]; rfl
    · rw [if_neg h, if_neg (fun z => h z.2), up2_row (by decide)]
  have e2 : ∀ j, st0B a0 241 j = if j = 0 then 10 else a0 241 j := fun j => by
    unfold st0B
    rw [up2_row (by decide), up2_if]
    by_cases h : j = 0
    · rw [if_pos h, if_pos ⟨rfl, h⟩]; rfl
    · rw [if_neg h, if_neg (fun z => h z.2), up2_row (by decide), up2_row (by decide)]
  have e3 : ∀ j, st0B a0 242 j = if j = 0 then 10 else a0 242 j := fun j => by
    unfold st0B
    rw [up2_if]
    by_cases h : j = 0
    · rw [if_pos h, if_pos ⟨rfl, h⟩]; rfl
    · rw [if_neg h, if_neg (fun z => h z.2), up2_row (by decide), up2_row (by decide), up2_row (by decide)]
  refine ⟨fun o z1 z2 z3 z4 => ?_, ⟨?_, ?_, ?_, ?_⟩, fun j hj => ?_, fun j hj => ?_⟩
  · unfold st0B
    rw [up2_row z4, up2_row z3, up2_row z2, up2_row z1]
  · rw [e0, if_pos rfl]
  · rw [e1, if_pos rfl]
  · rw [e2, if_pos rfl]
  · rw [e3, if_pos rfl]
  · omega
  · have : j = 0 := by omega
    subst this
    unfold boxB
    rw [e0, e1, e2, e3, if_pos rfl, if_pos rfl, if_pos rfl, if_pos rfl]
    decide
theorem bK_b {a0 : tF} (hR : rowR a0) (A : tF) (q : Int) (h0 : 0 ≤ q) (h1 : q + 1 < 96) (h : bK a0 A q) : (0 ≤ A 239 q.toNat ∧ A 239 q.toNat ≤ 20) ∧ (0 ≤ A 240 q.toNat ∧ A 240 q.toNat ≤ 20) ∧ (0 ≤ A 241 q.toNat ∧ A 241 q.toNat ≤ 20) ∧ (0 ≤ A 242 q.toNat ∧ A 242 q.toNat ≤ 20) ∧ (0 ≤ A 237 q.toNat ∧ A 237 q.toNat ≤ 3) ∧ (0 ≤ A 238 q.toNat ∧ A 238 q.toNat ≤ 3) ∧ (0 ≤ A 237 (96 + q).toNat ∧ A 237 (96 + q).toNat ≤ 3) ∧ (0 ≤ A 238 (96 + q).toNat ∧ A 238 (96 + q).toNat ≤ 3) := by
  obtain ⟨k, rfl⟩ := Int.eq_ofNat_of_zero_le h0
  obtain ⟨c1, c2, c3, c4⟩ := h
  have bk := c4 k (Int.le_refl _)
  have e7 : A 237 = a0 237 := c1 237 (by decide) (by decide) (by decide) (by decide)
  have e8 : A 238 = a0 238 := c1 238 (by decide) (by decide) (by decide) (by decide)
  have r1 := hR k (by omega)
  have r2 := hR (96 + k) (by omega)
  rw [← e7, ← e8] at r1 r2
  unfold boxB at bk
  have t1 : ((k : Int)).toNat = k := rfl
  have t2 : (96 + (k : Int)).toNat = 96 + k := rfl
  rw [t1, t2]
  omega
/-- a place of a quarter's box; behind the last quarter every place -/
def inBx (A : tF) (q up lo : Int) : Prop := (0 ≤ up ∧ up ≤ 20) ∧ (0 ≤ lo ∧ lo ≤ 20) ∧ (q < 96 → (A 239 q.toNat ≤ up ∧ up ≤ A 240 q.toNat) ∧ (A 241 q.toNat ≤ lo ∧ lo ≤ A 242 q.toNat))
theorem bx_suc {a0 A : tF} (hK : bK a0 A 95) {q up lo i j : Int} (h0 : 0 ≤ q) (h1 : q < 96) (hb : inBx A q up lo) (i0 : 0 ≤ i) (i1 : A 237 q.toNat ≤ i) (i2 : i ≤ A 238 q.toNat) (j0 : 0 ≤ j) (j1 : A 237 (96 + q).toNat ≤ j) (j2 : j ≤ A 238 (96 + q).toNat) : inBx A (q + 1) (gC 20 (up - gM i up + cmB q)) (if lo - gM j lo + gM i up < 20 then lo - gM j lo + gM i up else 20) := by
  obtain ⟨k, rfl⟩ := Int.eq_ofNat_of_zero_le h0
  obtain ⟨b1, b2, b3⟩ := hb
  have b3 := b3 h1
  have t1 : ((k : Int)).toNat = k := rfl
  have t2 : (96 + (k : Int)).toNat = 96 + k := rfl
  have t3 : ((k : Int) + 1).toNat = k + 1 := rfl
  rw [t1] at b3 i1 i2
  rw [t2] at j1 j2
  have bc := cmB_b (q := (k : Int))
  unfold inBx
  rw [if20_mn, gC_mn, gM_mn, gM_mn, t3]
  refine ⟨by omega, by omega, fun hq => ?_⟩
  have hS := hK.2.2.1 k (by omega)
  unfold boxS at hS
  simp only [gC_mn, g0_mx] at hS
  omega
