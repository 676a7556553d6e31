/-! the class's value and pick, with the openings of both mills given by rows -/
theorem gC_mn (a b : Int) : gC a b = min a b := by unfold gC; omega
theorem g0_mx (x : Int) : g0 x = max 0 x := by unfold g0; omega
theorem gM_mn (a x : Int) : gM a x = min a x := by unfold gM; omega
theorem gX_mn (u : Int) : gX u = min (u + 2) 20 := by unfold gX; omega
theorem gY_mn (l w : Int) : gY l w = min (l + w) 20 := by unfold gY; omega
theorem if20_mn (z : Int) : (if z < 20 then z else 20) = min z 20 := by omega
def gJ (wU wL mk : Int) (fA fB : Int → Int) (nA nB : Nat) (V : Int → Int → Int) (q up lo : Int) : Int × Int := jA (gQ (uWk wU mk up lo) (lWk wL lo) (cmB q) V up lo) up lo (fB q) nB nA (fA q) (-1) (-1) 0
def cW (wU wL mk : Int) (fA fB : Int → Int) (nA nB : Nat) : Nat → Int → Int → Int
  | 0, _, _ => 0
  | n + 1, up, lo => (gJ wU wL mk fA fB nA nB (cW wU wL mk fA fB nA nB n) (95 - n) up lo).1
/-- the pick with n quarters left behind it -/
def cK (wU wL mk : Int) (fA fB : Int → Int) (nA nB : Nat) (n : Nat) (up lo : Int) : Int := (gJ wU wL mk fA fB nA nB (cW wU wL mk fA fB nA nB n) (95 - n) up lo).2
theorem cW_cV {wU wL mk : Int} {fq : Int → Int} {nB : Nat} : ∀ n, cW wU wL mk (fun _ => 0) fq 4 nB n = cV wU wL mk fq nB n
  | 0 => rfl
  | n + 1 => by
    funext up lo
    show (gJ wU wL mk (fun _ => 0) fq 4 nB (cW wU wL mk (fun _ => 0) fq 4 nB n) (95 - n) up lo).1 = _
    rw [cW_cV n]
    rfl
theorem jB_cg {G G' : Int → Int} {lo o : Int} : ∀ (n : Nat) (p y most pick : Int), (∀ j, p ≤ j → j < p + n → G (gM j lo) = G' (gM j lo)) → jB G lo o n p y most pick = jB G' lo o n p y most pick
  | 0, _, _, _, _, _ => rfl
  | n + 1, p, y, most, pick, h => by
    unfold jB
    rw [h p (by omega) (by omega)]
    split
    · rfl
    · split
      · exact jB_cg n _ _ _ _ (fun j h1 h2 => h j (by omega) (by omega))
      · exact jB_cg n _ _ _ _ (fun j h1 h2 => h j (by omega) (by omega))
theorem jA_cg {G G' : Int → Int → Int} {up lo fB : Int} {nB : Nat} : ∀ (n : Nat) (o x most pick : Int), (∀ i j, o ≤ i → i < o + n → fB ≤ j → j < fB + nB → G (gM i up) (gM j lo) = G' (gM i up) (gM j lo)) → jA G up lo fB nB n o x most pick = jA G' up lo fB nB n o x most pick
  | 0, _, _, _, _, _ => rfl
  | n + 1, o, x, most, pick, h => by
    unfold jA
    rw [jB_cg (G := G (gM o up)) (G' := G' (gM o up)) nB fB (-1) most pick (fun j h1 h2 => h o j (by omega) (by omega) h1 h2)]
    split
    · rfl
    · exact jA_cg n _ _ _ _ (fun i j h1 h2 h3 h4 => h i j (by omega) (by omega) h3 h4)
theorem iB_at {F : Int → Int} {a : Int} : ∀ (n : Nat) (b best which : Int), iB F a n b best which = (best, which) ∨ ∃ j, b ≤ j ∧ j < b + n ∧ iB F a n b best which = (F j, 4 * a + j)
  | 0, _, _, _ => Or.inl rfl
  | n + 1, b, best, which => by
    unfold iB
    split
    · rcases iB_at (F := F) (a := a) n (b + 1) (F b) (4 * a + b) with h | ⟨j, h1, h2, h3⟩
      · exact Or.inr ⟨b, by omega, by omega, h⟩
      · exact Or.inr ⟨j, by omega, by omega, h3⟩
    · rcases iB_at (F := F) (a := a) n (b + 1) best which with h | ⟨j, h1, h2, h3⟩
      · exact Or.inl h
      · exact Or.inr ⟨j, by omega, by omega, h3⟩
theorem iA_at {F : Int → Int → Int} {fB : Int} {nB : Nat} : ∀ (n : Nat) (a best which : Int), iA F fB nB n a best which = (best, which) ∨ ∃ i j, a ≤ i ∧ i < a + n ∧ fB ≤ j ∧ j < fB + nB ∧ iA F fB nB n a best which = (F i j, 4 * i + j)
  | 0, _, _, _ => Or.inl rfl
  | n + 1, a, best, which => by
    unfold iA
    rcases iA_at (F := F) (fB := fB) (nB := nB) n (a + 1) (iB (F a) a nB fB best which).1 (iB (F a) a nB fB best which).2 with h | ⟨i, j, h1, h2, h3, h4, h5⟩
    · rw [h]
      rcases iB_at (F := F a) (a := a) nB fB best which with h' | ⟨j, g1, g2, g3⟩
      · exact Or.inl h'
      · exact Or.inr ⟨a, j, by omega, by omega, g1, g2, g3⟩
    · exact Or.inr ⟨i, j, by omega, by omega, h3, h4, h5⟩
theorem iA_ge {F : Int → Int → Int} {fB : Int} {nB : Nat} : ∀ (n : Nat) (a best which : Int), best ≤ (iA F fB nB n a best which).1 ∧ ∀ i j, a ≤ i → i < a + n → fB ≤ j → j < fB + nB → F i j ≤ (iA F fB nB n a best which).1
  | 0, a, best, which => ⟨Int.le_refl _, fun i j h1 h2 => by omega⟩
  | n + 1, a, best, which => by
    unfold iA
    obtain ⟨h1, h2⟩ := iA_ge (F := F) (fB := fB) (nB := nB) n (a + 1) (iB (F a) a nB fB best which).1 (iB (F a) a nB fB best which).2
    obtain ⟨g1, g2⟩ := iB_ge (F := F a) (a := a) nB fB best which
    refine ⟨by omega, fun i j q1 q2 q3 q4 => ?_⟩
    by_cases e : i = a
    · subst e
      exact Int.le_trans (g2 j q3 q4) h1
    · exact h2 i j (by omega) (by omega) q3 q4
/-- the rounds of the class as rounds of all openings -/
theorem jA_iA {G : Int → Int → Int} {up lo fB : Int} {nB : Nat} (hu : 0 ≤ up) (hl : 0 ≤ lo) (n : Nat) (a best which : Int) : jA G up lo fB nB n a (-1) best which = iA (fun i j => G (gM i up) (gM j lo)) fB nB n a best which :=
  (iA_jA (F := fun i j => G (gM i up) (gM j lo)) hl n a (-1) best which (fun _ _ _ _ _ _ => rfl) (fun q => by omega)).symm
theorem uWk_b {w mk up lo : Int} (h : 0 ≤ w ∧ w ≤ 9) : 0 ≤ uWk w mk up lo ∧ uWk w mk up lo ≤ 9 := by unfold uWk; split <;> omega
theorem lWk_b {w lo : Int} (h : 0 ≤ w ∧ w ≤ 9) : 0 ≤ lWk w lo ∧ lWk w lo ≤ 9 := by unfold lWk; split <;> omega
theorem cmB_b {q : Int} : 0 ≤ cmB q ∧ cmB q ≤ 2 := by unfold cmB; split <;> omega
theorem xw_b {x w : Int} (hx : 0 ≤ x ∧ x ≤ 3) (hw : 0 ≤ w ∧ w ≤ 9) : 0 ≤ x * w ∧ x * w ≤ 27 := by
  rw [Int.mul_comm]
  exact wm_b hw hx
/-- the openings that may be: none below 0, none above 3, one at least -/
def opn (f : Int → Int) (n : Nat) : Prop := 0 < n ∧ ∀ q, 0 ≤ q → q < 96 → 0 ≤ f q ∧ f q + n ≤ 4
section CW
variable {wU wL mk : Int} {fA fB : Int → Int} {nA nB : Nat}
/-- one quarter of the value: it is the best of all openings, and the pick is the first of them -/
theorem gJ_at (hA : opn fA nA) (hB : opn fB nB) {V : Int → Int → Int} (hU : 0 ≤ wU ∧ wU ≤ 9) (hL : 0 ≤ wL ∧ wL ≤ 9) (hV : ∀ x y, 0 ≤ x ∧ x ≤ 20 → 0 ≤ y ∧ y ≤ 20 → 0 ≤ V x y) {q up lo : Int} (h0 : 0 ≤ q) (h1 : q < 96) (hu : 0 ≤ up ∧ up ≤ 20) (hl : 0 ≤ lo ∧ lo ≤ 20) :
    ∃ i j, fA q ≤ i ∧ i < fA q + nA ∧ fB q ≤ j ∧ j < fB q + nB ∧ gJ wU wL mk fA fB nA nB V q up lo = (gQ (uWk wU mk up lo) (lWk wL lo) (cmB q) V up lo (gM i up) (gM j lo), 4 * i + j) ∧
      ∀ i' j', fA q ≤ i' → i' < fA q + nA → fB q ≤ j' → j' < fB q + nB → gQ (uWk wU mk up lo) (lWk wL lo) (cmB q) V up lo (gM i' up) (gM j' lo) ≤ (gJ wU wL mk fA fB nA nB V q up lo).1 := by
  have a1 := hA.2 q h0 h1
  have b1 := hB.2 q h0 h1
  have bU := uWk_b (mk := mk) (up := up) (lo := lo) hU
  have bL := lWk_b (lo := lo) hL
  have bc := cmB_b (q := q)
  have hn := hA.1
  have hn' := hB.1
  unfold gJ
  rw [jA_iA hu.1 hl.1]
  obtain ⟨g1, g2⟩ := iA_ge (F := fun i j => gQ (uWk wU mk up lo) (lWk wL lo) (cmB q) V up lo (gM i up) (gM j lo)) (fB := fB q) (nB := nB) nA (fA q) (-1) 0
  rcases iA_at (F := fun i j => gQ (uWk wU mk up lo) (lWk wL lo) (cmB q) V up lo (gM i up) (gM j lo)) (fB := fB q) (nB := nB) nA (fA q) (-1) 0 with h | ⟨i, j, h1, h2, h3, h4, h5⟩
  · exfalso
    have k := g2 (fA q) (fB q) (by omega) (by omega) (by omega) (by omega)
    rw [h] at k
    have bm := gM_b (a := fA q) (x := up) ⟨a1.1, by omega⟩ hu
    have bn := gM_b (a := fB q) (x := lo) ⟨b1.1, by omega⟩ hl
    have k : gQ (uWk wU mk up lo) (lWk wL lo) (cmB q) V up lo (gM (fA q) up) (gM (fB q) lo) ≤ -1 := k
    unfold gQ at k
    rw [gC_mn, if20_mn] at k
    have e1 := xw_b ⟨bm.1, bm.2.1⟩ bU
    have e2 := xw_b ⟨bn.1, bn.2.1⟩ bL
    have e3 := hV (min 20 (up - gM (fA q) up + cmB q)) (min (lo - gM (fB q) lo + gM (fA q) up) 20) ⟨by omega, by omega⟩ ⟨by omega, by omega⟩
    omega
  · exact ⟨i, j, h1, h2, h3, h4, h5, fun i' j' q1 q2 q3 q4 => g2 i' j' q1 q2 q3 q4⟩
theorem cW_b (hA : opn fA nA) (hB : opn fB nB) (hU : 0 ≤ wU ∧ wU ≤ 9) (hL : 0 ≤ wL ∧ wL ≤ 9) : ∀ (n : Nat) (up lo : Int), n ≤ 96 → 0 ≤ up ∧ up ≤ 20 → 0 ≤ lo ∧ lo ≤ 20 → 0 ≤ cW wU wL mk fA fB nA nB n up lo ∧ cW wU wL mk fA fB nA nB n up lo ≤ 54 * n
  | 0, _, _, _, _, _ => ⟨Int.le_refl _, Int.le_refl _⟩
  | n + 1, up, lo, hn, hu, hl => by
    have ih := cW_b hA hB hU hL n
    obtain ⟨i, j, h1, h2, h3, h4, h5, -⟩ := gJ_at (mk := mk) hA hB (V := cW wU wL mk fA fB nA nB n) hU hL (fun x y hx hy => (ih x y (by omega) hx hy).1) (q := 95 - n) (by omega) (by omega) hu hl
    have a1 := hA.2 (95 - n) (by omega) (by omega)
    have b1 := hB.2 (95 - n) (by omega) (by omega)
    have bU := uWk_b (mk := mk) (up := up) (lo := lo) hU
    have bL := lWk_b (lo := lo) hL
    have bc := cmB_b (q := 95 - n)
    have bm := gM_b (a := i) (x := up) ⟨by omega, by omega⟩ hu
    have bn := gM_b (a := j) (x := lo) ⟨by omega, by omega⟩ hl
    have e1 := xw_b ⟨bm.1, bm.2.1⟩ bU
    have e2 := xw_b ⟨bn.1, bn.2.1⟩ bL
    show 0 ≤ (gJ wU wL mk fA fB nA nB (cW wU wL mk fA fB nA nB n) (95 - n) up lo).1 ∧ (gJ wU wL mk fA fB nA nB (cW wU wL mk fA fB nA nB n) (95 - n) up lo).1 ≤ _
    rw [h5]
    show 0 ≤ gQ (uWk wU mk up lo) (lWk wL lo) (cmB (95 - n)) (cW wU wL mk fA fB nA nB n) up lo (gM i up) (gM j lo) ∧ gQ (uWk wU mk up lo) (lWk wL lo) (cmB (95 - n)) (cW wU wL mk fA fB nA nB n) up lo (gM i up) (gM j lo) ≤ _
    unfold gQ
    rw [gC_mn, if20_mn]
    have e3 := ih (min 20 (up - gM i up + cmB (95 - n))) (min (lo - gM j lo + gM i up) 20) (by omega) ⟨by omega, by omega⟩ ⟨by omega, by omega⟩
    omega
/-- the pick tells openings that may be, and the value is that of the pick -/
theorem cK_at (hA : opn fA nA) (hB : opn fB nB) (hU : 0 ≤ wU ∧ wU ≤ 9) (hL : 0 ≤ wL ∧ wL ≤ 9) {n : Nat} {up lo : Int} (hn : n < 96) (hu : 0 ≤ up ∧ up ≤ 20) (hl : 0 ≤ lo ∧ lo ≤ 20) :
    ∃ i j, fA (95 - n) ≤ i ∧ i < fA (95 - n) + nA ∧ fB (95 - n) ≤ j ∧ j < fB (95 - n) + nB ∧ cK wU wL mk fA fB nA nB n up lo = 4 * i + j ∧ cW wU wL mk fA fB nA nB (n + 1) up lo = gQ (uWk wU mk up lo) (lWk wL lo) (cmB (95 - n)) (cW wU wL mk fA fB nA nB n) up lo (gM i up) (gM j lo) := by
  obtain ⟨i, j, h1, h2, h3, h4, h5, -⟩ := gJ_at (mk := mk) hA hB (V := cW wU wL mk fA fB nA nB n) hU hL (fun x y hx hy => (cW_b hA hB hU hL n x y (by omega) hx hy).1) (q := 95 - n) (by omega) (by omega) hu hl
  refine ⟨i, j, h1, h2, h3, h4, ?_, ?_⟩
  · show (gJ wU wL mk fA fB nA nB (cW wU wL mk fA fB nA nB n) (95 - n) up lo).2 = _
    rw [h5]
  · show (gJ wU wL mk fA fB nA nB (cW wU wL mk fA fB nA nB n) (95 - n) up lo).1 = _
    rw [h5]
theorem cK_b (hA : opn fA nA) (hB : opn fB nB) (hU : 0 ≤ wU ∧ wU ≤ 9) (hL : 0 ≤ wL ∧ wL ≤ 9) {n : Nat} {up lo : Int} (hn : n < 96) (hu : 0 ≤ up ∧ up ≤ 20) (hl : 0 ≤ lo ∧ lo ≤ 20) : 0 ≤ cK wU wL mk fA fB nA nB n up lo ∧ cK wU wL mk fA fB nA nB n up lo ≤ 15 := by
  obtain ⟨i, j, h1, h2, h3, h4, h5, -⟩ := cK_at (mk := mk) hA hB hU hL hn hu hl
  have a1 := hA.2 (95 - n) (by omega) (by omega)
  have b1 := hB.2 (95 - n) (by omega) (by omega)
  omega
end CW
