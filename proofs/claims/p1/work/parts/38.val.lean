/-! the reference's values as a function: what can be ground from a quarter on -/
def gP (wA wB mk : Int) (V : Int → Int → Int → Int) (u l w a b : Int) : Int := gV wA wB mk (gX u) (gY l w) (gM a (gX u)) (gM b (gY l w)) + V (gX u - gM a (gX u)) (gY l w - gM b (gY l w)) (gM a (gX u))
/-- n quarters are left; fq q is the lower mill's first opening in quarter q, nB how many it has -/
def rV (wA wB mk : Int) (fq : Int → Int) (nB : Nat) : Nat → Int → Int → Int → Int
  | 0, _, _, _ => 0
  | n + 1, u, l, w => (iA (gP wA wB mk (rV wA wB mk fq nB n) u l w) (fq (95 - n)) nB 4 0 (-1) 0).1
theorem iB_cg {F F' : Int → Int} {a : Int} : ∀ (n : Nat) (b best which : Int), (∀ j, b ≤ j → j < b + n → F j = F' j) → iB F a n b best which = iB F' a n b best which
  | 0, _, _, _, _ => rfl
  | n + 1, b, best, which, h => by
    unfold iB
    rw [h b (by omega) (by omega)]
    split
    · exact iB_cg n _ _ _ (fun j h1 h2 => h j (by omega) (by omega))
    · exact iB_cg n _ _ _ (fun j h1 h2 => h j (by omega) (by omega))
theorem iA_cg {F F' : Int → Int → Int} {fB : Int} {nB : Nat} : ∀ (n : Nat) (a best which : Int), (∀ i j, a ≤ i → i < a + n → fB ≤ j → j < fB + nB → F i j = F' i j) → iA F fB nB n a best which = iA F' fB nB n a best which
  | 0, _, _, _, _ => rfl
  | n + 1, a, best, which, h => by
    unfold iA
    rw [iB_cg (F := F a) (F' := F' a) nB fB best which (fun j h1 h2 => h a j (by omega) (by omega) h1 h2)]
    exact iA_cg n _ _ _ (fun i j h1 h2 h3 h4 => h i j (by omega) (by omega) h3 h4)
theorem iA_b2 {F : Int → Int → Int} {M fB : Int} {nB : Nat} : ∀ (n : Nat) (a best which : Int), (∀ i j, a ≤ i → i < a + n → fB ≤ j → j < fB + nB → -1 ≤ F i j ∧ F i j ≤ M) → -1 ≤ best ∧ best ≤ M → -1 ≤ (iA F fB nB n a best which).1 ∧ (iA F fB nB n a best which).1 ≤ M
  | 0, _, _, _, _, h => h
  | n + 1, a, best, which, hF, h => iA_b2 n (a + 1) _ _ (fun i j h1 h2 h3 h4 => hF i j (by omega) (by omega) h3 h4) (iB_b nB fB best which (fun j h1 h2 => hF a j (by omega) (by omega) h1 h2) h)
theorem wm_b {w m : Int} (hw : 0 ≤ w ∧ w ≤ 9) (hm : 0 ≤ m ∧ m ≤ 3) : 0 ≤ w * m ∧ w * m ≤ 27 := by
  rcases (show m = 0 ∨ m = 1 ∨ m = 2 ∨ m = 3 by omega) with rfl | rfl | rfl | rfl <;> omega
theorem gV_b {wA wB mk x y m n : Int} (hA : 0 ≤ wA ∧ wA ≤ 9) (hB : 0 ≤ wB ∧ wB ≤ 9) (hm : 0 ≤ m ∧ m ≤ 3) (hn : 0 ≤ n ∧ n ≤ 3) : 0 ≤ gV wA wB mk x y m n ∧ gV wA wB mk x y m n ≤ 54 := by
  have h1 := wm_b hA hm
  have h2 := wm_b hB hn
  unfold gV
  split <;> split <;> omega
section Val
variable {wA wB mk : Int} {fq : Int → Int} {nB : Nat}
theorem rV_b (hA : 0 ≤ wA ∧ wA ≤ 9) (hB : 0 ≤ wB ∧ wB ≤ 9) (hfq : ∀ q, 0 ≤ fq q ∧ fq q + nB ≤ 4) : ∀ (n : Nat) (u l w : Int), 0 ≤ u ∧ u ≤ 20 → 0 ≤ l ∧ l ≤ 20 → 0 ≤ w ∧ w ≤ 3 → -1 ≤ rV wA wB mk fq nB n u l w ∧ rV wA wB mk fq nB n u l w ≤ 54 * n
  | 0, u, l, w, _, _, _ => by unfold rV; omega
  | n + 1, u, l, w, hu, hl, hw => by
    unfold rV
    have bx := gX_b hu
    have by' := gY_b hl hw
    have hq := hfq (95 - n)
    refine iA_b2 4 0 (-1) 0 (fun i j h1 h2 h3 h4 => ?_) ⟨by omega, by omega⟩
    have bm := gM_b (a := i) ⟨h1, by omega⟩ bx
    have bn := gM_b (a := j) ⟨by omega, by omega⟩ by'
    have hg := gV_b (mk := mk) (x := gX u) (y := gY l w) hA hB ⟨bm.1, bm.2.1⟩ ⟨bn.1, bn.2.1⟩
    have ih := rV_b hA hB hfq n (gX u - gM i (gX u)) (gY l w - gM j (gY l w)) (gM i (gX u)) ⟨by omega, by omega⟩ ⟨by omega, by omega⟩ ⟨bm.1, bm.2.1⟩
    unfold gP
    exact ⟨by omega, by omega⟩
end Val
