/-! along the walk the value is ground; the upper mill's value hangs on its own pond alone; something can be ground -/
section WV
variable {wU wL mk : Int} {fA fB : Int → Int} {nA nB : Nat}
theorem x_uW {w mk up lo x : Int} : x * uWk w mk up lo = w * uGr mk up lo x := by
  unfold uWk uGr
  generalize (if 0 < lo - mk then lo - mk else 0) = t
  split
  · rw [Int.mul_zero, Int.mul_zero]
  · exact Int.mul_comm _ _
theorem y_lW {w lo y : Int} : y * lWk w lo = w * lGr lo y := by
  unfold lWk lGr
  split
  · rw [Int.mul_zero, Int.mul_zero]
  · exact Int.mul_comm _ _
theorem walk_in (hA : opn fA nA) (hB : opn fB nB) (hU : 0 ≤ wU ∧ wU ≤ 9) (hL : 0 ≤ wL ∧ wL ≤ 9) : ∀ q : Nat, q ≤ 96 → (0 ≤ (cSt (cK wU wL mk fA fB nA nB) q).1 ∧ (cSt (cK wU wL mk fA fB nA nB) q).1 ≤ 20) ∧ (0 ≤ (cSt (cK wU wL mk fA fB nA nB) q).2 ∧ (cSt (cK wU wL mk fA fB nA nB) q).2 ≤ 20)
  | 0, _ => by
    show ((0 : Int) ≤ 12 ∧ (12 : Int) ≤ 20) ∧ (0 : Int) ≤ 10 ∧ (10 : Int) ≤ 20
    decide
  | q + 1, h => by
    have ih := walk_in hA hB hU hL q (by omega)
    have hp := cK_b (mk := mk) hA hB hU hL (n := 95 - q) (by omega) ih.1 ih.2
    have bc := cmB_b (q := (q : Int))
    unfold cSt
    dsimp only
    rw [gC_mn, gC_mn, gM_mn, gM_mn]
    generalize cK wU wL mk fA fB nA nB (95 - q) (cSt (cK wU wL mk fA fB nA nB) q).1 (cSt (cK wU wL mk fA fB nA nB) q).2 = p at hp
    omega
theorem walk_val (hA : opn fA nA) (hB : opn fB nB) (hU : 0 ≤ wU ∧ wU ≤ 9) (hL : 0 ≤ wL ∧ wL ≤ 9) : ∀ q : Nat, q ≤ 96 → cW wU wL mk fA fB nA nB 96 12 10 = wU * cSU (cK wU wL mk fA fB nA nB) mk q + wL * cSL (cK wU wL mk fA fB nA nB) q + cW wU wL mk fA fB nA nB (96 - q) (cSt (cK wU wL mk fA fB nA nB) q).1 (cSt (cK wU wL mk fA fB nA nB) q).2
  | 0, _ => by
    show _ = wU * 0 + wL * 0 + cW wU wL mk fA fB nA nB (96 - 0) 12 10
    rw [Int.mul_zero, Int.mul_zero, Int.zero_add, Int.zero_add]
  | q + 1, h => by
    have ih := walk_val hA hB hU hL q (by omega)
    have bs := walk_in (mk := mk) hA hB hU hL q (by omega)
    obtain ⟨i, j, h1, h2, h3, h4, h5, h6⟩ := cK_at (mk := mk) hA hB hU hL (n := 95 - q) (by omega) bs.1 bs.2
    have eq : (95 : Int) - ((95 - q : Nat) : Int) = q := by omega
    rw [eq] at h1 h2 h3 h4 h6
    have a1 := hA.2 q (by omega) (by omega)
    have b1 := hB.2 q (by omega) (by omega)
    have d1 : (4 * i + j) / 4 = i := by omega
    have d2 : (4 * i + j) % 4 = j := by omega
    have eP : cPk (cK wU wL mk fA fB nA nB) q = 4 * i + j := h5
    have e1 : cSU (cK wU wL mk fA fB nA nB) mk (q + 1) = cSU (cK wU wL mk fA fB nA nB) mk q + uGr mk (cSt (cK wU wL mk fA fB nA nB) q).1 (cSt (cK wU wL mk fA fB nA nB) q).2 (gM i (cSt (cK wU wL mk fA fB nA nB) q).1) := by
      show cSU (cK wU wL mk fA fB nA nB) mk q + uGr mk (cSt (cK wU wL mk fA fB nA nB) q).1 (cSt (cK wU wL mk fA fB nA nB) q).2 (gM (cPk (cK wU wL mk fA fB nA nB) q / 4) (cSt (cK wU wL mk fA fB nA nB) q).1) = _
      rw [eP, d1]
    have e2 : cSL (cK wU wL mk fA fB nA nB) (q + 1) = cSL (cK wU wL mk fA fB nA nB) q + lGr (cSt (cK wU wL mk fA fB nA nB) q).2 (gM j (cSt (cK wU wL mk fA fB nA nB) q).2) := by
      show cSL (cK wU wL mk fA fB nA nB) q + lGr (cSt (cK wU wL mk fA fB nA nB) q).2 (gM (cPk (cK wU wL mk fA fB nA nB) q % 4) (cSt (cK wU wL mk fA fB nA nB) q).2) = _
      rw [eP, d2]
    have e3 : cSt (cK wU wL mk fA fB nA nB) (q + 1) = (gC 20 ((cSt (cK wU wL mk fA fB nA nB) q).1 - gM i (cSt (cK wU wL mk fA fB nA nB) q).1 + cmB q), if (cSt (cK wU wL mk fA fB nA nB) q).2 - gM j (cSt (cK wU wL mk fA fB nA nB) q).2 + gM i (cSt (cK wU wL mk fA fB nA nB) q).1 < 20 then (cSt (cK wU wL mk fA fB nA nB) q).2 - gM j (cSt (cK wU wL mk fA fB nA nB) q).2 + gM i (cSt (cK wU wL mk fA fB nA nB) q).1 else 20) := by
      show (gC 20 ((cSt (cK wU wL mk fA fB nA nB) q).1 - gM (cPk (cK wU wL mk fA fB nA nB) q / 4) (cSt (cK wU wL mk fA fB nA nB) q).1 + cmB q), gC 20 ((cSt (cK wU wL mk fA fB nA nB) q).2 - gM (cPk (cK wU wL mk fA fB nA nB) q % 4) (cSt (cK wU wL mk fA fB nA nB) q).2 + gM (cPk (cK wU wL mk fA fB nA nB) q / 4) (cSt (cK wU wL mk fA fB nA nB) q).1)) = _
      rw [eP, d1, d2, if20_mn, gC_mn, gC_mn]
      congr 1
      omega
    have en : 96 - q = (95 - q) + 1 := by omega
    rw [ih, en, h6, e1, e2, e3, show 96 - (q + 1) = 95 - q by omega]
    unfold gQ
    rw [x_uW, y_lW, Int.mul_add, Int.mul_add]
    generalize wU * cSU (cK wU wL mk fA fB nA nB) mk q = a
    generalize wL * cSL (cK wU wL mk fA fB nA nB) q = b
    dsimp only
    omega
end WV
theorem vOne_walk {m : Int} {p : Nat → Int} (hm : m = 0 ∨ m = 1) (hp : ∀ k, 0 ≤ p k ∧ p k ≤ 3) : vOne m 40 p = if m = 0 then cSU (kOne m 40 p) 40 96 else cSL (kOne m 40 p) 96 := by
  obtain ⟨hA, hB⟩ := opn_A hm hp
  obtain ⟨hU, hL⟩ := m_w hm
  have h := walk_val (mk := 40) hA hB hU hL 96 (Nat.le_refl _)
  have h' : vOne m 40 p = (1 - m) * cSU (kOne m 40 p) 40 96 + m * cSL (kOne m 40 p) 96 + 0 := h
  rw [h']
  rcases hm with rfl | rfl
  · rw [if_pos rfl, Int.zero_mul, Int.sub_zero, Int.one_mul, Int.add_zero, Int.add_zero]
  · rw [if_neg (by decide), Int.sub_self, Int.zero_mul, Int.one_mul, Int.zero_add, Int.add_zero]
theorem kOne_pk {m : Int} {p : Nat → Int} (hm : m = 0 ∨ m = 1) (hp : ∀ k, 0 ≤ p k ∧ p k ≤ 3) : ∀ q : Nat, q < 96 → 0 ≤ cPk (kOne m 40 p) q ∧ cPk (kOne m 40 p) q ≤ 15 := fun q hq => by
  obtain ⟨hA, hB⟩ := opn_A hm hp
  obtain ⟨hU, hL⟩ := m_w hm
  have bs := walk_in (mk := 40) hA hB hU hL q (by omega)
  exact cK_b hA hB hU hL (by omega) bs.1 bs.2
/-- the value is what the day grinds along the walk -/
theorem vOne_day {m : Int} {p : Nat → Int} (hm : m = 0 ∨ m = 1) (hp : ∀ k, 0 ≤ p k ∧ p k ≤ 3) : vOne m 40 p = sM m (pA (kOne m 40 p)) (pBb (kOne m 40 p)) := by
  have h := walk_sum (kOne_pk hm hp) 96 (Nat.le_refl _)
  rw [vOne_walk hm hp, h.1, h.2]
  rfl
/-- the upper pond goes its own way -/
theorem dU_up {s : Int × Int × Int} {A B B' : Nat → Int} : ∀ q, (dU s A B q).1 = (dU s A B' q).1
  | 0 => rfl
  | q + 1 => by
    unfold dU
    dsimp only
    rw [dU_up (B := B) (B' := B') q]
theorem sA_up {s : Int × Int × Int} {A B B' : Nat → Int} : ∀ q, sA s A B q = sA s A B' q
  | 0 => rfl
  | q + 1 => by
    unfold sA dA
    rw [sA_up (B := B) (B' := B') q, dU_up (B := B) (B' := B') q]
theorem iA_1 {F F' : Int → Int → Int} {b b' : Int} : ∀ (n : Nat) (a best w w' : Int), (∀ i, a ≤ i → i < a + n → F i b = F' i b') → (iA F b 1 n a best w).1 = (iA F' b' 1 n a best w').1
  | 0, _, _, _, _, _ => rfl
  | n + 1, a, best, w, w', h => by
    have e := h a (by omega) (by omega)
    unfold iA
    have key : (iB (F a) a 1 b best w).1 = (iB (F' a) a 1 b' best w').1 := by
      unfold iB iB
      rw [e]
      split <;> rfl
    rw [key]
    exact iA_1 n (a + 1) _ _ _ (fun i h1 h2 => h i (by omega) (by omega))
theorem cW_up {fB fB' : Int → Int} (hB : opn fB 1) (hB' : opn fB' 1) : ∀ (n : Nat) (up lo lo' : Int), n ≤ 96 → 0 ≤ up ∧ up ≤ 20 → 0 ≤ lo ∧ lo ≤ 20 → 0 ≤ lo' ∧ lo' ≤ 20 → cW 1 0 40 f0 fB 4 1 n up lo = cW 1 0 40 f0 fB' 4 1 n up lo'
  | 0, _, _, _, _, _, _, _ => rfl
  | n + 1, up, lo, lo', hn, hu, hl, hl' => by
    show (gJ 1 0 40 f0 fB 4 1 (cW 1 0 40 f0 fB 4 1 n) (95 - n) up lo).1 = (gJ 1 0 40 f0 fB' 4 1 (cW 1 0 40 f0 fB' 4 1 n) (95 - n) up lo').1
    unfold gJ
    rw [jA_iA hu.1 hl.1, jA_iA hu.1 hl'.1]
    have bB := hB.2 (95 - n) (by omega) (by omega)
    have bB' := hB'.2 (95 - n) (by omega) (by omega)
    have bc := cmB_b (q := 95 - (n : Int))
    refine iA_1 4 _ _ _ _ (fun i i0 i1 => ?_)
    have i0 : 0 ≤ i := i0
    have i1 : i < 0 + (4 : Nat) := i1
    have bm := gM_b (a := i) (x := up) ⟨i0, by omega⟩ hu
    have bn := gM_b (a := fB (95 - n)) (x := lo) ⟨bB.1, by omega⟩ hl
    have bn' := gM_b (a := fB' (95 - n)) (x := lo') ⟨bB'.1, by omega⟩ hl'
    show gQ (uWk 1 40 up lo) (lWk 0 lo) (cmB (95 - n)) (cW 1 0 40 f0 fB 4 1 n) up lo (gM i up) (gM (fB (95 - n)) lo) = gQ (uWk 1 40 up lo') (lWk 0 lo') (cmB (95 - n)) (cW 1 0 40 f0 fB' 4 1 n) up lo' (gM i up) (gM (fB' (95 - n)) lo')
    unfold gQ
    rw [y_lW, y_lW, Int.zero_mul, Int.zero_mul]
    have eW : uWk 1 40 up lo = uWk 1 40 up lo' := by
      unfold uWk
      rw [if_neg (by omega : ¬ 0 < lo - 40), if_neg (by omega : ¬ 0 < lo' - 40)]
    rw [eW, gC_mn, if20_mn, if20_mn]
    congr 1
    exact cW_up hB hB' n _ _ _ (by omega) ⟨by omega, by omega⟩ ⟨by omega, by omega⟩ ⟨by omega, by omega⟩
theorem vOne_up {p p' : Nat → Int} (hp : ∀ k, 0 ≤ p k ∧ p k ≤ 3) (hp' : ∀ k, 0 ≤ p' k ∧ p' k ≤ 3) : vOne 0 40 p = vOne 0 40 p' :=
  cW_up (opn_A (Or.inl rfl) hp).2 (opn_A (Or.inl rfl) hp').2 96 12 10 10 (Nat.le_refl _) ⟨by decide, by decide⟩ ⟨by decide, by decide⟩ ⟨by decide, by decide⟩
theorem LV_cg {T T' : Nat → Int} (h : ∀ q, q < 96 → T q = T' q) : ∀ n, n ≤ 96 → LV T n = LV T' n
  | 0, _ => rfl
  | n + 1, hn => by
    funext l
    unfold LV
    have e : prv T (95 - n) = prv T' (95 - n) := by
      unfold prv
      split
      · rfl
      · exact h _ (by omega)
    rw [LV_cg h n (by omega), e]
theorem uS_cg {p p' : Nat → Int} (h : ∀ q, q < 96 → p q = p' q) : ∀ q, q ≤ 96 → uS p q = uS p' q
  | 0, _ => rfl
  | q + 1, hq => by
    unfold uS
    rw [uS_cg h q (by omega), h q (by omega)]
theorem vOne_lo {p p' : Nat → Int} (hp : ∀ k, 0 ≤ p k ∧ p k ≤ 3) (hp' : ∀ k, 0 ≤ p' k ∧ p' k ≤ 3) (h : ∀ q, q < 96 → p q = p' q) : vOne 1 40 p = vOne 1 40 p' := by
  rw [val_L hp, val_L hp']
  refine congrFun (LV_cg (fun q hq => ?_) 96 (Nat.le_refl _)) 10
  unfold uT
  rw [h q hq, uS_cg h q (by omega)]
/-- from the start something can be ground -/
theorem vOne_pos {m : Int} {p : Nat → Int} (hm : m = 0 ∨ m = 1) (hp : ∀ k, 0 ≤ p k ∧ p k ≤ 3) : 0 < vOne m 40 p := by
  obtain ⟨hA, hB⟩ := opn_A hm hp
  obtain ⟨hU, hL⟩ := m_w hm
  obtain ⟨i, j, -, -, -, -, -, h⟩ := gJ_at (mk := 40) hA hB (V := cW (1 - m) m 40 (oA m p) (oB m p) (nA1 m) (nB1 m) 95) hU hL (fun x y hx hy => (cW_b hA hB hU hL 95 x y (by decide) hx hy).1) (q := 0) (up := 12) (lo := 10) (by decide) (by decide) ⟨by decide, by decide⟩ ⟨by decide, by decide⟩
  have a1 := hA.2 0 (by decide) (by decide)
  have b1 := hB.2 0 (by decide) (by decide)
  have n1 := hA.1
  have n2 := hB.1
  have bc := cmB_b (q := (0 : Int))
  have k := h (oA m p 0 + nA1 m - 1) (oB m p 0 + nB1 m - 1) (by omega) (by omega) (by omega) (by omega)
  have e : vOne m 40 p = (gJ (1 - m) m 40 (oA m p) (oB m p) (nA1 m) (nB1 m) (cW (1 - m) m 40 (oA m p) (oB m p) (nA1 m) (nB1 m) 95) 0 12 10).1 := rfl
  rw [e]
  have bm := gM_b (a := oA m p 0 + nA1 m - 1) (x := 12) ⟨by omega, by omega⟩ ⟨by decide, by decide⟩
  have bn := gM_b (a := oB m p 0 + nB1 m - 1) (x := 10) ⟨by omega, by omega⟩ ⟨by decide, by decide⟩
  unfold gQ at k
  rw [gC_mn, if20_mn] at k
  have hV := (cW_b (mk := 40) hA hB hU hL 95 (min 20 (12 - gM (oA m p 0 + nA1 m - 1) 12 + cmB 0)) (min (10 - gM (oB m p 0 + nB1 m - 1) 10 + gM (oA m p 0 + nA1 m - 1) 12) 20) (by decide) ⟨by omega, by omega⟩ ⟨by omega, by omega⟩).1
  rcases hm with rfl | rfl
  · have e1 : gM (oA 0 p 0 + (nA1 0 : Nat) - 1) 12 = 3 := rfl
    have e2 : uWk (1 - 0) 40 12 10 = 1 := rfl
    have e3 : lWk 0 10 = 0 := rfl
    rw [e2, e3, Int.mul_zero] at k
    rw [e1] at k hV
    omega
  · have e1 : gM (oB 1 p 0 + (nB1 1 : Nat) - 1) 10 = 3 := rfl
    have e2 : uWk (1 - 1) 40 12 10 = 0 := rfl
    have e3 : lWk 1 10 = 1 := rfl
    rw [e2, e3, Int.mul_zero] at k
    rw [e1] at k hV
    omega
theorem gM_0 {x : Int} (h : 0 ≤ x) : gM 0 x = 0 := by rw [gM_mn]; omega
theorem sB_0 {s : Int × Int × Int} {A B : Nat → Int} (hs : okW3 s) (hA : ab3 A) (hB : ∀ q, q < 96 → B q = 0) : ∀ n, n ≤ 96 → sB s A B n = 0
  | 0, _ => rfl
  | n + 1, h => by
    have bs := dU_b (A := A) (B := B) hs hA (fun q hq => by rw [hB q hq]; decide) n (by omega)
    unfold okW3 at bs
    have by' := gY_b bs.2.1 bs.2.2
    show sB s A B n + dB s A B n = 0
    rw [sB_0 hs hA hB n (by omega)]
    unfold dB
    rw [hB n (by omega), gM_0 by'.1, ite_self]
    rfl
theorem sA_0 {s : Int × Int × Int} {A B : Nat → Int} (hs : okW3 s) (hA : ∀ q, q < 96 → A q = 0) (hB : ab3 B) : ∀ n, n ≤ 96 → sA s A B n = 0
  | 0, _ => rfl
  | n + 1, h => by
    have bs := dU_b (A := A) (B := B) hs (fun q hq => by rw [hA q hq]; decide) hB n (by omega)
    unfold okW3 at bs
    have bx := gX_b bs.1
    show sA s A B n + dA s A B n = 0
    rw [sA_0 hs hA hB n (by omega)]
    unfold dA
    rw [hA n (by omega), gM_0 bx.1, ite_self]
    rfl
