/-! the class's value function, and that it is the reference's -/
def gQ (uW lW cm : Int) (V : Int → Int → Int) (up lo x y : Int) : Int := x * uW + y * lW + V (gC 20 (up - x + cm)) (if lo - y + x < 20 then lo - y + x else 20)
def cV (wU wL mk : Int) (fq : Int → Int) (nB : Nat) : Nat → Int → Int → Int
  | 0, _, _ => 0
  | n + 1, up, lo => (jA (gQ (uWk wU mk up lo) (lWk wL lo) (cmB (95 - n)) (cV wU wL mk fq nB n) up lo) up lo (fq (95 - n)) nB 4 0 (-1) (-1) 0).1
theorem gB_u {wA mk x y m : Int} : (if x - gB mk y < 5 then 0 else wA * m) = m * uWk wA mk x y := by
  have e : gB mk y = (if 0 < y - mk then y - mk else 0) := by
    unfold gB
    by_cases h : y ≤ mk
    · rw [if_pos h, if_neg (by omega)]
    · rw [if_neg h, if_pos (by omega)]
  unfold uWk
  rw [e]
  generalize (if 0 < y - mk then y - mk else 0) = t
  split
  · rw [Int.mul_zero]
  · exact Int.mul_comm _ _
theorem gB_l {wB y n : Int} : (if y < 5 then 0 else wB * n) = n * lWk wB y := by
  unfold lWk
  split
  · rw [Int.mul_zero]
  · exact Int.mul_comm _ _
theorem gC_X {z : Int} : gC 20 (z + 2) = gX z := by
  unfold gC gX
  by_cases h : z + 2 < 20
  · rw [if_neg (by omega), if_pos h]
  · by_cases h2 : (20 : Int) < z + 2
    · rw [if_pos h2, if_neg h]
    · rw [if_neg h2, if_neg h]; omega
section Eq
variable {wA wB mk : Int} {fq : Int → Int} {nB : Nat}
/-- the rounds of a state are those of its place -/
theorem pairs_eq (hfq : ∀ q, 0 ≤ fq q ∧ fq q + nB ≤ 4) (n : Nat) (ih : ∀ (u l w : Int), 0 ≤ u ∧ u ≤ 20 → 0 ≤ l ∧ l ≤ 20 → 0 ≤ w ∧ w ≤ 3 → rV wA wB mk fq nB n u l w = cV wA wB mk fq nB n (gX u) (gY l w)) {u l w : Int} (hu : 0 ≤ u ∧ u ≤ 20) (hl : 0 ≤ l ∧ l ≤ 20) (hw : 0 ≤ w ∧ w ≤ 3) :
    iA (gP wA wB mk (rV wA wB mk fq nB n) u l w) (fq (95 - n)) nB 4 0 (-1) 0 = jA (gQ (uWk wA mk (gX u) (gY l w)) (lWk wB (gY l w)) (cmB (95 - n)) (cV wA wB mk fq nB n) (gX u) (gY l w)) (gX u) (gY l w) (fq (95 - n)) nB 4 0 (-1) (-1) 0 := by
  have bx := gX_b hu
  have by' := gY_b hl hw
  have hq := hfq (95 - n)
  refine iA_jA by'.1 4 0 (-1) (-1) 0 (fun i j h1 h2 h3 h4 => ?_) (fun q => by omega)
  have bm := gM_b (a := i) ⟨h1, by omega⟩ bx
  have bn := gM_b (a := j) ⟨by omega, by omega⟩ by'
  unfold gP gQ gV
  rw [gB_u, gB_l]
  congr 1
  cases n with
  | zero => rfl
  | succ n =>
    have ec : cmB (95 - ((n + 1 : Nat) : Int)) = 2 := by
      unfold cmB
      rw [if_pos (by omega)]
    rw [ec, gC_X, ih _ _ _ ⟨by omega, by omega⟩ ⟨by omega, by omega⟩ ⟨bm.1, bm.2.1⟩]
    rfl
theorem rV_cV (hfq : ∀ q, 0 ≤ fq q ∧ fq q + nB ≤ 4) : ∀ (n : Nat) (u l w : Int), 0 ≤ u ∧ u ≤ 20 → 0 ≤ l ∧ l ≤ 20 → 0 ≤ w ∧ w ≤ 3 → rV wA wB mk fq nB n u l w = cV wA wB mk fq nB n (gX u) (gY l w)
  | 0, _, _, _, _, _, _ => rfl
  | n + 1, u, l, w, hu, hl, hw => by
    unfold rV cV
    rw [pairs_eq hfq n (rV_cV hfq n) hu hl hw]
end Eq
