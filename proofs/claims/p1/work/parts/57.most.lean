/-! the class's mostWorth answers the value; the picks stand in its longs -/
section MW
variable {wU wL mk : Int} {fA fB : Int → Int} {nA nB : Nat} {A : tF} {l0 : tL}
def mJ (wU wL mk : Int) (fA fB : Int → Int) (nA nB : Nat) (A : tF) (l0 : tL) (q : Int) (nr fa : Nat) (ai : tF) (al : tL) : Prop :=
  nfo nr fa ∧ (∀ o, o ≠ 234 → o ≠ 235 → ai o = A o) ∧ (∀ o, o ≠ 236 → al o = l0 o) ∧ (∀ k, 0 ≤ ai 234 k ∧ ai 234 k ≤ 5184) ∧ (∀ k, 0 ≤ ai 235 k ∧ ai 235 k ≤ 5184) ∧
  (∀ up lo, inBx A (q + 1) up lo → ai fa (up * 21 + lo).toNat = cW wU wL mk fA fB nA nB (95 - q).toNat up lo) ∧
  (∀ p up lo, q < p → p < 96 → inBx A p up lo → pkR (al 236 (p * 106 + (up * 21 + lo).tdiv 16).toNat) (up * 21 + lo) = cK wU wL mk fA fB nA nB (95 - p).toNat up lo)
def mI (wU wL mk : Int) (fA fB : Int → Int) (nA nB : Nat) (A : tF) (l0 : tL) (q : Int) (nr fa : Nat) (ai : tF) (al : tL) (u l : Int) : Prop :=
  mJ wU wL mk fA fB nA nB A l0 q nr fa ai al ∧ ∀ up lo, inBx A q up lo → (up < u ∨ (up = u ∧ lo < l)) → ai nr (up * 21 + lo).toNat = cW wU wL mk fA fB nA nB (96 - q).toNat up lo ∧ pkR (al 236 (q * 106 + (up * 21 + lo).tdiv 16).toNat) (up * 21 + lo) = cK wU wL mk fA fB nA nB (95 - q).toNat up lo
/-- the rows of openings are these -/
def rowF (fA fB : Int → Int) (nA nB : Nat) (A : tF) : Prop := ∀ q, 0 ≤ q → q < 96 → A 237 q.toNat = fA q ∧ A 238 q.toNat = fA q + nA - 1 ∧ A 237 (96 + q).toNat = fB q ∧ A 238 (96 + q).toNat = fB q + nB - 1
theorem nn_eq {a : Int} {n : Nat} : nn a (a + n - 1) = n := by unfold nn; omega
theorem yw_b {y w : Int} (hy : 0 ≤ y ∧ y ≤ 20) (hw : 0 ≤ w ∧ w ≤ 9) : 0 ≤ y * w ∧ y * w ≤ 180 := by
  rcases (show w = 0 ∨ w = 1 ∨ w = 2 ∨ w = 3 ∨ w = 4 ∨ w = 5 ∨ w = 6 ∨ w = 7 ∨ w = 8 ∨ w = 9 by omega) with rfl | rfl | rfl | rfl | rfl | rfl | rfl | rfl | rfl | rfl <;> omega
theorem pl_ix {q p c c' : Int} (hc : 0 ≤ c ∧ c < 441) (hc' : 0 ≤ c' ∧ c' < 441) (hq : 0 ≤ q) (hp : 0 ≤ p) (h1 : (p * 106 + c'.tdiv 16).toNat = (q * 106 + c.tdiv 16).toNat) (h2 : c.tmod 16 = c'.tmod 16) : p = q ∧ c' = c := by
  rw [Int.tdiv_eq_ediv_of_nonneg hc.1, Int.tdiv_eq_ediv_of_nonneg hc'.1] at h1
  rw [Int.tmod_eq_emod_of_nonneg hc.1, Int.tmod_eq_emod_of_nonneg hc'.1] at h2
  omega
theorem onA_o {fB fA : Int} {nr fa o : Nat} {q up lo : Int} {ai : tF} (h : o ≠ nr) : onA wU wL mk fB fA nB nA nr fa q up lo ai o = ai o := by
  unfold onA
  rw [up2_row h]
theorem pk_on {al : tL} {q p up lo up' lo' pick : Int} (hq : 0 ≤ q) (hp : 0 ≤ p) (hu : 0 ≤ up ∧ up ≤ 20) (hl : 0 ≤ lo ∧ lo ≤ 20) (hu' : 0 ≤ up' ∧ up' ≤ 20) (hl' : 0 ≤ lo' ∧ lo' ≤ 20) (hk : 0 ≤ pick ∧ pick ≤ 15) :
    pkR (up2 al 236 (q * 106 + (up * 21 + lo).tdiv 16).toNat (pkB (al 236 (q * 106 + (up * 21 + lo).tdiv 16).toNat) (up * 21 + lo) pick) 236 (p * 106 + (up' * 21 + lo').tdiv 16).toNat) (up' * 21 + lo') = if p = q ∧ up' = up ∧ lo' = lo then pick else pkR (al 236 (p * 106 + (up' * 21 + lo').tdiv 16).toNat) (up' * 21 + lo') := by
  rw [up2_if]
  by_cases h1 : (p * 106 + (up' * 21 + lo').tdiv 16).toNat = (q * 106 + (up * 21 + lo).tdiv 16).toNat
  · rw [if_pos ⟨rfl, h1⟩, pk_rw (by omega) (by omega) hk]
    by_cases h2 : (up * 21 + lo).tmod 16 = (up' * 21 + lo').tmod 16
    · have := pl_ix (c := up * 21 + lo) (c' := up' * 21 + lo') ⟨by omega, by omega⟩ ⟨by omega, by omega⟩ hq hp h1 h2
      rw [if_pos h2, if_pos (by omega)]
    · rw [if_neg h2, if_neg (fun z => h2 (by rw [z.2.1, z.2.2])), h1]
  · rw [if_neg (fun z => h1 z.2), if_neg (fun z => h1 (by rw [z.1, z.2.1, z.2.2]))]
/-- the rounds over the far row are those of the value -/
theorem gH_gJ {a0 : tF} (hK : bK a0 A 95) (hF : rowF fA fB nA nB A) (hA : opn fA nA) (hB : opn fB nB) {q : Int} {nr fa : Nat} {ai : tF} {al : tL} (h0 : 0 ≤ q) (h1 : q < 96) (hj : mJ wU wL mk fA fB nA nB A l0 q nr fa ai al) {up lo : Int} (hb : inBx A q up lo) :
    jA (gH (uWk wU mk up lo) (lWk wL lo) (cmB q) (ai fa) up lo) up lo (fB q) nB nA (fA q) (-1) (-1) 0 = gJ wU wL mk fA fB nA nB (cW wU wL mk fA fB nA nB (95 - q).toNat) (95 - ((95 - q).toNat : Int)) up lo := by
  have e : 95 - ((95 - q).toNat : Int) = q := by omega
  rw [e]
  unfold gJ
  obtain ⟨e1, e2, e3, e4⟩ := hF q h0 h1
  have a1 := hA.2 q h0 h1
  have b1 := hB.2 q h0 h1
  refine jA_cg nA (fA q) (-1) (-1) 0 (fun i j q1 q2 q3 q4 => ?_)
  unfold gH gQ
  have hs := bx_suc hK (i := i) (j := j) h0 h1 hb (by omega) (by omega) (by omega) (by omega) (by omega) (by omega)
  rw [hj.2.2.2.2.2.1 _ _ hs]
theorem mI_step {a0 : tF} (hK : bK a0 A 95) (hF : rowF fA fB nA nB A) (hA : opn fA nA) (hB : opn fB nB) (hU : 0 ≤ wU ∧ wU ≤ 9) (hL : 0 ≤ wL ∧ wL ≤ 9) {q : Int} {nr fa : Nat} {ai : tF} {al : tL} (h0 : 0 ≤ q) (h1 : q < 96) (hnf : nfo nr fa) {up lo : Int} (hb : inBx A q up lo) (h : mI wU wL mk fA fB nA nB A l0 q nr fa ai al up lo) :
    mI wU wL mk fA fB nA nB A l0 q nr fa (onA wU wL mk (A 237 (96 + q).toNat) (A 237 q.toNat) (nn (A 237 (96 + q).toNat) (A 238 (96 + q).toNat)) (nn (A 237 q.toNat) (A 238 q.toNat)) nr fa q up lo ai) (onL wU wL mk (A 237 (96 + q).toNat) (A 237 q.toNat) (nn (A 237 (96 + q).toNat) (A 238 (96 + q).toNat)) (nn (A 237 q.toNat) (A 238 q.toNat)) fa q up lo ai al) up (lo + 1) := by
  obtain ⟨hj, hv⟩ := h
  obtain ⟨e1, e2, e3, e4⟩ := hF q h0 h1
  rw [e1, e2, e3, e4, nn_eq, nn_eq]
  have key := gH_gJ hK hF hA hB h0 h1 hj hb
  have en : (96 - q).toNat = (95 - q).toNat + 1 := by omega
  have bW := cW_b (mk := mk) hA hB hU hL ((95 - q).toNat + 1) up lo (by omega) hb.1 hb.2.1
  have bP := cK_b (mk := mk) hA hB hU hL (n := (95 - q).toNat) (by omega) hb.1 hb.2.1
  have kv : ∀ k, onA wU wL mk (fB q) (fA q) nB nA nr fa q up lo ai nr k = if k = (up * 21 + lo).toNat then cW wU wL mk fA fB nA nB ((95 - q).toNat + 1) up lo else ai nr k := fun k => by
    unfold onA
    rw [up2_if, key]
    by_cases hk : k = (up * 21 + lo).toNat
    · rw [if_pos hk, if_pos ⟨rfl, hk⟩]; rfl
    · rw [if_neg hk, if_neg (fun z => hk z.2)]
  have kb : ∀ k, (0 ≤ ai nr k ∧ ai nr k ≤ 5184) → 0 ≤ onA wU wL mk (fB q) (fA q) nB nA nr fa q up lo ai nr k ∧ onA wU wL mk (fB q) (fA q) nB nA nr fa q up lo ai nr k ≤ 5184 := fun k hk => by
    rw [kv]
    split
    · omega
    · exact hk
  have hnf2 : fa ≠ nr := by unfold nfo at hnf; omega
  have kl : onL wU wL mk (fB q) (fA q) nB nA fa q up lo ai al = up2 al 236 (q * 106 + (up * 21 + lo).tdiv 16).toNat (pkB (al 236 (q * 106 + (up * 21 + lo).tdiv 16).toNat) (up * 21 + lo) (cK wU wL mk fA fB nA nB (95 - q).toNat up lo)) := by
    unfold onL
    rw [key]; rfl
  obtain ⟨j0, j1, j2, j3, j4, j5, j6⟩ := hj
  refine ⟨⟨j0, fun o z1 z2 => ?_, fun o z => ?_, fun k => ?_, fun k => ?_, fun u l hul => ?_, fun p u l p1 p2 hul => ?_⟩, fun u l hul hlt => ⟨?_, ?_⟩⟩
  · rw [onA_o (by unfold nfo at hnf; omega)]
    exact j1 o z1 z2
  · rw [kl, up2_row z]
    exact j2 o z
  · by_cases hn : nr = 234
    · subst hn
      exact kb k (j3 k)
    · rw [onA_o (fun z => hn z.symm)]
      exact j3 k
  · by_cases hn : nr = 235
    · subst hn
      exact kb k (j4 k)
    · rw [onA_o (fun z => hn z.symm)]
      exact j4 k
  · rw [onA_o hnf2]
    exact j5 u l hul
  · rw [kl, pk_on h0 (by omega) hb.1 hb.2.1 hul.1 hul.2.1 bP, if_neg (by omega)]
    exact j6 p u l p1 p2 hul
  · rw [kv]
    have b1 := hul.1
    have b2 := hul.2.1
    have b3 := hb.1
    have b4 := hb.2.1
    by_cases hc : u = up ∧ l = lo
    · rw [if_pos (by rw [hc.1, hc.2]), en, hc.1, hc.2]
    · rw [if_neg (by omega)]
      exact (hv u l hul (by omega)).1
  · rw [kl, pk_on h0 h0 hb.1 hb.2.1 hul.1 hul.2.1 bP]
    by_cases hc : u = up ∧ l = lo
    · rw [if_pos ⟨rfl, hc.1, hc.2⟩, hc.1, hc.2]
    · rw [if_neg (fun z => hc z.2)]
      exact (hv u l hul (by omega)).2
theorem mJ_G (hU : 0 ≤ wU ∧ wU ≤ 9) (hL : 0 ≤ wL ∧ wL ≤ 9) {q : Int} {nr fa : Nat} {ai : tF} {al : tL} (hj : mJ wU wL mk fA fB nA nB A l0 q nr fa ai al) {up lo : Int} (hl : 0 ≤ lo ∧ lo ≤ 20) : ∀ x y, 0 ≤ x → x ≤ 3 → x ≤ up → 0 ≤ y → y ≤ lo → -1 ≤ gH (uWk wU mk up lo) (lWk wL lo) (cmB q) (ai fa) up lo x y ∧ gH (uWk wU mk up lo) (lWk wL lo) (cmB q) (ai fa) up lo x y ≤ 1000000 := by
  intro x y x0 x3 xu y0 yl
  have hfa : fa = 234 ∨ fa = 235 := by
    have := hj.1
    unfold nfo at this
    omega
  have e1 := xw_b (x := x) ⟨x0, x3⟩ (uWk_b (mk := mk) (up := up) (lo := lo) hU)
  have e2 := yw_b (y := y) ⟨y0, by omega⟩ (lWk_b (lo := lo) hL)
  unfold gH
  generalize (gC 20 (up - x + cmB q) * 21 + (if lo - y + x < 20 then lo - y + x else 20)).toNat = k
  rcases hfa with rfl | rfl
  · have := hj.2.2.2.1 k
    omega
  · have := hj.2.2.2.2.1 k
    omega
end MW
section MW2
variable {scL : Nat} {scX : Nat → Int} {d : Nat} {fi : tF} {fr : tR} {ai : tF} {al : tL} {P : ot} {nr fa : Nat} {fA fB : Int → Int} {nA nB : Nat}
/-- what mostWorth leaves -/
def mwO (wU wL mk : Int) (fA fB : Int → Int) (nA nB : Nat) (ai : tF) (al : tL) (ai' : tF) (al' : tL) : Prop :=
  (∀ o, o ≠ 234 → o ≠ 235 → o ≠ 239 → o ≠ 240 → o ≠ 241 → o ≠ 242 → ai' o = ai o) ∧ (∀ o, o ≠ 236 → al' o = al o) ∧ (∀ k, 0 ≤ ai' 234 k ∧ ai' 234 k ≤ 5184) ∧ (∀ k, 0 ≤ ai' 235 k ∧ ai' 235 k ≤ 5184) ∧ ai' 239 0 = 12 ∧ ai' 241 0 = 10 ∧
  ∃ A, bK ai A 95 ∧ ∀ p up lo, 0 ≤ p → p < 96 → inBx A p up lo → pkR (al' 236 (p * 106 + (up * 21 + lo).tdiv 16).toNat) (up * 21 + lo) = cK wU wL mk fA fB nA nB (95 - p).toNat up lo
theorem c_mostWorthV (hnf : nfo nr fa) (hU : 0 ≤ fi 233 11 ∧ fi 233 11 ≤ 9) (hL : 0 ≤ fi 233 12 ∧ fi 233 12 ≤ 9) (hmk : 0 ≤ fi 233 10 ∧ fi 233 10 ≤ 40) (hA : opn fA nA) (hB : opn fB nB) (hF : rowF fA fB nA nB ai) (h4 : ∀ k, 0 ≤ ai 234 k ∧ ai 234 k ≤ 5184) (h5 : ∀ k, 0 ≤ ai 235 k ∧ ai 235 k ≤ 5184)
    (hP : ∀ nr' fa' ai' al', nfo nr' fa' → mwO (fi 233 11) (fi 233 12) (fi 233 10) fA fB nA nB ai al ai' al' → P (.inl (some (.inl (cW (fi 233 11) (fi 233 12) (fi 233 10) fA fB nA nB 96 12 10)))) (up2 fi 233 13 21) (cF nr' fa' fr) (cA ai') al') :
    Call 1 scL scX (d + 3) 41 [.inr (.inl (some 233))] 244 fi (cF nr fa fr) (cA ai) al 244 P := by
  have hR : rowR ai := by
    intro k hk
    by_cases hk2 : k < 96
    · obtain ⟨e1, e2, -, -⟩ := hF k (by omega) (by omega)
      have t : ((k : Int)).toNat = k := rfl
      rw [t] at e1 e2
      have := hA.2 k (by omega) (by omega)
      have := hA.1
      omega
    · obtain ⟨j, rfl⟩ := Nat.exists_eq_add_of_le (Nat.le_of_not_lt hk2)
      obtain ⟨-, -, e1, e2⟩ := hF j (by omega) (by omega)
      have t : (96 + (j : Int)).toNat = 96 + j := rfl
      rw [t] at e1 e2
      have := hB.2 j (by omega) (by omega)
      have := hB.1
      omega
  refine c_mostHead (K := bK ai) hnf (bK_b hR) (fun A q h0 h1 h => bK_step hR h0 h1 h) (bK_0 ai) (fun A hK => ?_)
  have hrow : ∀ o, o ≠ 239 → o ≠ 240 → o ≠ 241 → o ≠ 242 → A o = ai o := hK.1
  have e7 : A 237 = ai 237 := hrow 237 (by decide) (by decide) (by decide) (by decide)
  have e8 : A 238 = ai 238 := hrow 238 (by decide) (by decide) (by decide) (by decide)
  have hFA : rowF fA fB nA nB A := fun q h0 h1 => by rw [e7, e8]; exact hF q h0 h1
  have hfa : fa = 234 ∨ fa = 235 := by unfold nfo at hnf; omega
  refine mw_q (fi := up2 fi 233 13 21) (r7 := A 237) (r8 := A 238) (r9 := A 239) (s0 := A 240) (s1 := A 241) (s2 := A 242) (J := mJ (fi 233 11) (fi 233 12) (fi 233 10) fA fB nA nB A al) (I := mI (fi 233 11) (fi 233 12) (fi 233 10) fA fB nA nB A al) rfl hmk ?_ ?_ ?_ ?_ ?_ ?_ ?_ 96 95 nr fa (fN A fa 1681 0) al none none (by decide) (by decide) hnf ?_ ?_
  · intro q h0 h1
    obtain ⟨k, rfl⟩ := Int.eq_ofNat_of_zero_le h0
    have bb := hK.2.2.2 k (by omega)
    have r1 := hR k (by omega)
    have r2 := hR (96 + k) (by omega)
    rw [← e7, ← e8] at r1 r2
    unfold boxB at bb
    have t1 : ((k : Int)).toNat = k := rfl
    have t2 : (96 + (k : Int)).toNat = 96 + k := rfl
    rw [t1, t2]
    omega
  · intro q nr fa ai al u l h
    exact ⟨h.1.2.1 237 (by decide) (by decide), h.1.2.1 238 (by decide) (by decide), h.1.2.1 239 (by decide) (by decide), h.1.2.1 240 (by decide) (by decide), h.1.2.1 241 (by decide) (by decide), h.1.2.1 242 (by decide) (by decide)⟩
  · intro q nr fa ai al h0 h1 hn hj
    refine ⟨hj, fun up lo hb hlt => ?_⟩
    have := hb.2.2 h1
    omega
  · intro q nr fa ai al up lo h0 h1 b1 b2 b3 b4 h
    obtain ⟨k, rfl⟩ := Int.eq_ofNat_of_zero_le h0
    have bb := hK.2.2.2 k (by omega)
    unfold boxB at bb
    have t1 : ((k : Int)).toNat = k := rfl
    rw [t1] at b3 b4
    exact mJ_G hU hL h.1 ⟨by omega, by omega⟩
  · intro q nr fa ai al up lo h0 h1 hn b1 b2 b3 b4 h
    obtain ⟨k, rfl⟩ := Int.eq_ofNat_of_zero_le h0
    have bb := hK.2.2.2 k (by omega)
    unfold boxB at bb
    have t1 : ((k : Int)).toNat = k := rfl
    refine mI_step hK hFA hA hB hU hL h0 h1 hn ⟨?_, ?_, fun _ => ⟨⟨b1, b2⟩, ⟨b3, b4⟩⟩⟩ h
    · rw [t1] at b1 b2
      omega
    · rw [t1] at b3 b4
      omega
  · intro q nr fa ai al up h0 h1 b1 b2 h
    refine ⟨h.1, fun u l hb hlt => h.2 u l hb ?_⟩
    have := hb.2.2 h1
    omega
  · intro q nr fa ai al h0 h1 hn h
    obtain ⟨⟨j0, j1, j2, j3, j4, j5, j6⟩, hv⟩ := h
    refine ⟨by unfold nfo at hn ⊢; omega, j1, j2, j3, j4, fun u l hb => ?_, fun p u l p1 p2 hb => ?_⟩
    · rw [show q - 1 + 1 = q by omega] at hb
      have := hb.2.2 h1
      rw [show (95 - (q - 1)).toNat = (96 - q).toNat by omega]
      exact (hv u l hb (by omega)).1
    · by_cases e : p = q
      · subst e
        have := hb.2.2 h1
        exact (hv u l hb (by omega)).2
      · exact j6 p u l (by omega) p2 hb
  · have ef : ∀ o, o ≠ fa → fN A fa 1681 0 o = A o := fun o ho => by
      funext j
      unfold fN
      rw [if_neg (fun z => ho z.1)]
    have eb : ∀ k, (0 ≤ A fa k ∧ A fa k ≤ 5184) → 0 ≤ fN A fa 1681 0 fa k ∧ fN A fa 1681 0 fa k ≤ 5184 := fun k hk => by
      unfold fN
      split
      · omega
      · exact hk
    have e4 : A 234 = ai 234 := hrow 234 (by decide) (by decide) (by decide) (by decide)
    have e5 : A 235 = ai 235 := hrow 235 (by decide) (by decide) (by decide) (by decide)
    refine ⟨hnf, fun o z1 z2 => ef o (by omega), fun o _ => rfl, fun k => ?_, fun k => ?_, fun u l hb => ?_, fun p u l p1 p2 => by omega⟩
    · by_cases hn : fa = 234
      · subst hn
        exact eb k (by rw [e4]; exact h4 k)
      · rw [ef 234 (fun z => hn z.symm), e4]
        exact h4 k
    · by_cases hn : fa = 235
      · subst hn
        exact eb k (by rw [e5]; exact h5 k)
      · rw [ef 235 (fun z => hn z.symm), e5]
        exact h5 k
    · have b1 := hb.1
      have b2 := hb.2.1
      show fN A fa 1681 0 fa (u * 21 + l).toNat = 0
      unfold fN
      rw [if_pos ⟨rfl, by omega⟩]
  · intro nr' fa' ai' al' x2' x3' hn hj
    obtain ⟨j0, j1, j2, j3, j4, j5, j6⟩ := hj
    have f9 : ai' 239 0 = 12 := by rw [j1 239 (by decide) (by decide)]; exact hK.2.1.1
    have f1 : ai' 241 0 = 10 := by rw [j1 241 (by decide) (by decide)]; exact hK.2.1.2.2.1
    refine mw_end rfl hn (by omega) (by omega) ?_
    have hv := j5 12 10 ⟨by omega, by omega, fun _ => by
      have := hK.2.1
      show (A 239 0 ≤ 12 ∧ 12 ≤ A 240 0) ∧ (A 241 0 ≤ 10 ∧ 10 ≤ A 242 0)
      omega⟩
    rw [f9, f1, hv]
    refine hP nr' fa' ai' al' hn ⟨fun o z1 z2 z3 z4 z5 z6 => ?_, j2, j3, j4, f9, f1, A, hK, fun p u l p0 p1 hb => j6 p u l (by omega) p1 hb⟩
    rw [j1 o z1 z2]
    exact hrow o z3 z4 z5 z6
end MW2
