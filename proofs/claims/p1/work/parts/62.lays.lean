/-! lays once more, with what it writes of choices -/
def rK (wA wB mk : Int) (fq : Int → Int) (nB : Nat) (n : Nat) (u l w : Int) : Int := (iA (gP wA wB mk (rV wA wB mk fq nB n) u l w) (fq (95 - n)) nB 4 0 (-1) 0).2
theorem rK_b {wA wB mk : Int} {fq : Int → Int} {nB n : Nat} {u l w : Int} (hfq : ∀ q, 0 ≤ fq q ∧ fq q + nB ≤ 4) : 0 ≤ rK wA wB mk fq nB n u l w ∧ rK wA wB mk fq nB n u l w ≤ 15 := by
  have hq := hfq (95 - n)
  unfold rK
  rcases iA_at (F := gP wA wB mk (rV wA wB mk fq nB n) u l w) (fB := fq (95 - n)) (nB := nB) 4 0 (-1) 0 with h | ⟨i, j, h1, h2, h3, h4, h5⟩
  · rw [h]; decide
  · rw [h5]
    show 0 ≤ 4 * i + j ∧ 4 * i + j ≤ 15
    omega
/-- the place of a choice -/
def cx (q u l w : Int) : Int := q * 21853 + ((u * 41 + l) * 13 + w)
theorem cx_ix {q p u l w u' l' w' : Int} (hq : 0 ≤ q) (hp : 0 ≤ p) (hu : 0 ≤ u ∧ u ≤ 20) (hl : 0 ≤ l ∧ l ≤ 20) (hw : 0 ≤ w ∧ w ≤ 3) (hu' : 0 ≤ u' ∧ u' ≤ 20) (hl' : 0 ≤ l' ∧ l' ≤ 20) (hw' : 0 ≤ w' ∧ w' ≤ 3) (h1 : ((cx p u' l' w').tdiv 8).toNat = ((cx q u l w).tdiv 8).toNat) (h2 : (cx q u l w).tmod 8 = (cx p u' l' w').tmod 8) : p = q ∧ u' = u ∧ l' = l ∧ w' = w := by
  unfold cx at h1 h2
  rw [Int.tdiv_eq_ediv_of_nonneg (by omega), Int.tdiv_eq_ediv_of_nonneg (by omega)] at h1
  rw [Int.tmod_eq_emod_of_nonneg (by omega), Int.tmod_eq_emod_of_nonneg (by omega)] at h2
  have key : p * 21853 + ((u' * 41 + l') * 13 + w') = q * 21853 + ((u * 41 + l) * 13 + w) := by
    generalize hx : p * 21853 + ((u' * 41 + l') * 13 + w') = x at h1 h2 ⊢
    generalize hy : q * 21853 + ((u * 41 + l) * 13 + w) = y at h1 h2 ⊢
    have n1 : 0 ≤ x := by omega
    have n2 : 0 ≤ y := by omega
    clear hx hy
    omega
  clear h1 h2
  have hpq : p = q := by
    have b1 : 0 ≤ (u' * 41 + l') * 13 + w' ∧ (u' * 41 + l') * 13 + w' < 21853 := by omega
    have b2 : 0 ≤ (u * 41 + l) * 13 + w ∧ (u * 41 + l) * 13 + w < 21853 := by omega
    generalize (u' * 41 + l') * 13 + w' = x at key b1
    generalize (u * 41 + l) * 13 + w = y at key b2
    omega
  subst hpq
  have k2 : (u' * 41 + l') * 13 + w' = (u * 41 + l) * 13 + w := by omega
  clear key
  omega
theorem ch_on {f : tF} {q p u l w u' l' w' which : Int} (hq : 0 ≤ q) (hp : 0 ≤ p) (hu : 0 ≤ u ∧ u ≤ 20) (hl : 0 ≤ l ∧ l ≤ 20) (hw : 0 ≤ w ∧ w ≤ 3) (hu' : 0 ≤ u' ∧ u' ≤ 20) (hl' : 0 ≤ l' ∧ l' ≤ 20) (hw' : 0 ≤ w' ∧ w' ≤ 3) (hk : 0 ≤ which ∧ which ≤ 15) :
    rdB (up2 f 128 ((cx q u l w).tdiv 8).toNat (chB (f 128 ((cx q u l w).tdiv 8).toNat) (cx q u l w) which) 128 ((cx p u' l' w').tdiv 8).toNat) (cx p u' l' w') = if p = q ∧ u' = u ∧ l' = l ∧ w' = w then which else rdB (f 128 ((cx p u' l' w').tdiv 8).toNat) (cx p u' l' w') := by
  have n1 : 0 ≤ cx q u l w := by unfold cx; omega
  have n2 : 0 ≤ cx p u' l' w' := by unfold cx; omega
  rw [up2_if]
  by_cases h1 : ((cx p u' l' w').tdiv 8).toNat = ((cx q u l w).tdiv 8).toNat
  · rw [if_pos ⟨rfl, h1⟩, ch_rw n1 n2 hk]
    by_cases h2 : (cx q u l w).tmod 8 = (cx p u' l' w').tmod 8
    · rw [if_pos h2, if_pos (cx_ix hq hp hu hl hw hu' hl' hw' h1 h2)]
    · rw [if_neg h2, if_neg (fun z => h2 (by rw [z.1, z.2.1, z.2.2.1, z.2.2.2])), h1]
  · rw [if_neg (fun z => h1 z.2), if_neg (fun z => h1 (by rw [z.1, z.2.1, z.2.2.1, z.2.2.2]))]
section LC
variable {wA wB mk who : Int} {pl : Nat → Int} {a0 : tF}
def chK (wA wB mk who : Int) (pl : Nat → Int) (ai : tF) (q : Int) : Prop := ∀ p u l w, q < p → 0 ≤ p → p < 96 → 0 ≤ u ∧ u ≤ 20 → 0 ≤ l ∧ l ≤ 20 → 0 ≤ w ∧ w ≤ 3 → rdB (ai 128 ((cx p u l w).tdiv 8).toNat) (cx p u l w) = rK wA wB mk (pB who pl) (nBw who) (95 - p).toNat u l w
def wJ (wA wB mk who : Int) (pl : Nat → Int) (a0 : tF) (ai : tF) (q : Int) : Prop := vJ wA wB mk who pl a0 ai q ∧ chK wA wB mk who pl ai q
def wI (wA wB mk who : Int) (pl : Nat → Int) (a0 : tF) (q : Int) (ai : tF) (u l w : Int) : Prop := vI wA wB mk who pl a0 q ai u l w ∧ chK wA wB mk who pl ai q ∧ ∀ u' l' w', 0 ≤ u' ∧ u' ≤ 20 → 0 ≤ l' ∧ l' ≤ 20 → 0 ≤ w' ∧ w' ≤ 3 → (u' < u ∨ (u' = u ∧ (l' < l ∨ (l' = l ∧ w' < w)))) → rdB (ai 128 ((cx q u' l' w').tdiv 8).toNat) (cx q u' l' w') = rK wA wB mk (pB who pl) (nBw who) (95 - q).toNat u' l' w'
theorem wI_step (hwho : who = 3 ∨ who = 1 ∨ who = 5) (hpl : ∀ k, 0 ≤ pl k ∧ pl k ≤ 3) {q : Int} (h0 : 0 ≤ q) (h1 : q < 96) {ai : tF} {u l w : Int} (hu : 0 ≤ u ∧ u ≤ 20) (hl : 0 ≤ l ∧ l ≤ 20) (hw : 0 ≤ w ∧ w ≤ 3) (h : wI wA wB mk who pl a0 q ai u l w) : wI wA wB mk who pl a0 q (onS wA wB mk (pB who pl q) (nBw who) q u l w ai) u l (w + 1) := by
  obtain ⟨hv, hc, hd⟩ := h
  have hf := fq_b hwho hpl q
  have key : (iA (gF wA wB mk (ai 127) u l w) (pB who pl q) (nBw who) 4 0 (-1) 0).2 = rK wA wB mk (pB who pl) (nBw who) (95 - q).toNat u l w := by
    unfold rK
    rw [show (95 : Int) - ((95 - q).toNat : Int) = q by omega]
    rw [iA_cg 4 0 (-1) 0 (fun i j q1 q2 q3 q4 => gF_gP hv.1 hu hl hw.1 ⟨q1, by omega⟩ ⟨by omega, by omega⟩)]
  have bk := rK_b (wA := wA) (wB := wB) (mk := mk) (fq := pB who pl) (nB := nBw who) (n := (95 - q).toNat) (u := u) (l := l) (w := w) (fq_b hwho hpl)
  have rd : ∀ p u' l' w', 0 ≤ p → 0 ≤ u' ∧ u' ≤ 20 → 0 ≤ l' ∧ l' ≤ 20 → 0 ≤ w' ∧ w' ≤ 3 → rdB (onS wA wB mk (pB who pl q) (nBw who) q u l w ai 128 ((cx p u' l' w').tdiv 8).toNat) (cx p u' l' w') = if p = q ∧ u' = u ∧ l' = l ∧ w' = w then rK wA wB mk (pB who pl) (nBw who) (95 - q).toNat u l w else rdB (ai 128 ((cx p u' l' w').tdiv 8).toNat) (cx p u' l' w') := by
    intro p u' l' w' hp b1 b2 b3
    have e := ch_on (f := up2 ai 126 (sx u l w) (iA (gF wA wB mk (ai 127) u l w) (pB who pl q) (nBw who) 4 0 (-1) 0).1) (which := rK wA wB mk (pB who pl) (nBw who) (95 - q).toNat u l w) h0 hp hu hl hw b1 b2 b3 bk
    rw [up2_row (by decide : 128 ≠ 126)] at e
    rw [← e, ← key]
    rfl
  refine ⟨vI_step hwho hpl h0 h1 hu hl hw hv, fun p u' l' w' p1 p2 p3 b1 b2 b3 => ?_, fun u' l' w' b1 b2 b3 hlt => ?_⟩
  · rw [rd p u' l' w' p2 b1 b2 b3, if_neg (by omega)]
    exact hc p u' l' w' p1 p2 p3 b1 b2 b3
  · rw [rd q u' l' w' h0 b1 b2 b3]
    by_cases hcc : u' = u ∧ l' = l ∧ w' = w
    · rw [if_pos ⟨rfl, hcc⟩, hcc.1, hcc.2.1, hcc.2.2]
    · rw [if_neg (fun z => hcc z.2)]
      exact hd u' l' w' b1 b2 b3 (by omega)
end LC
section LC2
variable {scL : Nat} {scX : Nat → Int} {d N : Nat} {fi : tF} {fr : tR} {ai : tF} {al : tL} {P : ot} {who : Int} {pl : Nat → Int}
theorem c_laysC (hA : 0 ≤ fi 54 37 ∧ fi 54 37 ≤ 9) (hB : 0 ≤ fi 54 38 ∧ fi 54 38 ≤ 9) (hmk : 0 ≤ fi 54 39 ∧ fi 54 39 ≤ 40) (hwho : who = 3 ∨ who = 1 ∨ who = 5) (hpl : ∀ k, 0 ≤ pl k ∧ pl k ≤ 3) (h81 : ai 81 = pl)
    (hP : ∀ ai' sb, (∀ o, o ≠ 126 → o ≠ 127 → o ≠ 128 → ai' o = ai o) → chK (fi 54 37) (fi 54 38) (fi 54 39) who pl ai' (-1) → P (.inl (some (.inl (rV (fi 54 37) (fi 54 38) (fi 54 39) (pB who pl) (nBw who) 96 10 10 0)))) (up2 fi 54 40 sb) (rF fr) (rA ai') al) :
    Call 1 scL scX (d + 5) 164 [.inr (.inl (some 54)), .inl who] N fi (rF fr) (rA ai) al N P := by
  refine c_lays (J := wJ (fi 54 37) (fi 54 38) (fi 54 39) who pl ai) (I := wI (fi 54 37) (fi 54 38) (fi 54 39) who pl ai) hmk hwho hpl ?_ ?_ ?_ ?_ ?_ ?_ ?_ ?_ ?_
  · intro a q hj
    rw [hj.1.1 81 (by decide) (by decide) (by decide)]
    exact h81
  · intro a q h0 h1 hj
    exact ⟨⟨hj.1, Int.le_refl _, fun u' l' w' b1 b2 b3 hlt => by omega⟩, hj.2, fun u' l' w' b1 b2 b3 hlt => by omega⟩
  · intro q a u l w h0 h1 u0 u1 l0 l1 hi a' j a0 a3 j0 j3
    have hi := hi.1
    rw [gF_gP hi.1 ⟨u0, u1⟩ ⟨l0, l1⟩ hi.2.1 ⟨a0, a3⟩ ⟨j0, j3⟩]
    have bx := gX_b ⟨u0, u1⟩
    have by' := gY_b4 ⟨l0, l1⟩ hi.2.1
    have bm := gM_b ⟨a0, a3⟩ bx
    have bn := gM_b ⟨j0, j3⟩ by'
    have hg := gV_b (mk := fi 54 39) (x := gX u) (y := gY l w) hA hB ⟨bm.1, bm.2.1⟩ ⟨bn.1, bn.2.1⟩
    have hv := rV_b (mk := fi 54 39) hA hB (fq_b hwho hpl) (95 - q).toNat (gX u - gM a' (gX u)) (gY l w - gM j (gY l w)) (gM a' (gX u)) ⟨by omega, by omega⟩ ⟨by omega, by omega⟩ ⟨bm.1, bm.2.1⟩
    unfold gP
    exact ⟨by omega, by omega⟩
  · intro q a u l w h0 h1 u0 u1 l0 l1 w0 w3 hi
    exact wI_step hwho hpl h0 h1 ⟨u0, u1⟩ ⟨l0, l1⟩ ⟨w0, w3⟩ hi
  · intro q a u l u0 u1 l0 l1 hi
    exact ⟨⟨hi.1.1, Int.le_refl _, fun u' l' w' b1 b2 b3 hlt => hi.1.2.2 u' l' w' b1 b2 b3 (by omega)⟩, hi.2.1, fun u' l' w' b1 b2 b3 hlt => hi.2.2 u' l' w' b1 b2 b3 (by omega)⟩
  · intro q a u u0 u1 hi
    exact ⟨⟨hi.1.1, Int.le_refl _, fun u' l' w' b1 b2 b3 hlt => hi.1.2.2 u' l' w' b1 b2 b3 (by omega)⟩, hi.2.1, fun u' l' w' b1 b2 b3 hlt => hi.2.2 u' l' w' b1 b2 b3 (by omega)⟩
  · intro q a h0 h1 hi
    have er : ∀ o, o ≠ 127 → cpN a 21853 o = a o := fun o ho => by
      funext j
      unfold cpN
      rw [if_neg (by omega)]
    refine ⟨⟨fun o h1 h2 h3 => ?_, fun u l w b1 b2 b3 => ?_⟩, fun p u l w p1 p2 p3 b1 b2 b3 => ?_⟩
    · rw [er o h2]
      exact hi.1.1.1 o h1 h2 h3
    · have e : cpN a 21853 127 (sx u l w) = a 126 (sx u l w) := by
        unfold cpN
        rw [if_pos ⟨rfl, by unfold sx; omega⟩]
      rw [e, show (95 - (q - 1)).toNat = (96 - q).toNat by omega]
      exact hi.1.2.2 u l w b1 b2 b3 (by omega)
    · rw [er 128 (by decide)]
      by_cases e : p = q
      · subst e
        exact hi.2.2 u l w b1 b2 b3 (by omega)
      · exact hi.2.1 p u l w (by omega) p2 p3 b1 b2 b3
  · refine ⟨⟨fun o h1 h2 h3 => ?_, fun u l w b1 b2 b3 => ?_⟩, fun p u l w p1 p2 p3 => by omega⟩
    · funext j
      unfold zN
      rw [if_neg (by omega)]
    · show zN ai 21853 127 (sx u l w) = 0
      unfold zN
      rw [if_pos ⟨rfl, by unfold sx; omega⟩]
  · intro ai' sb hj
    have e : ai' 127 5460 = rV (fi 54 37) (fi 54 38) (fi 54 39) (pB who pl) (nBw who) 96 10 10 0 := hj.1.2 10 10 0 ⟨by decide, by decide⟩ ⟨by decide, by decide⟩ ⟨by decide, by decide⟩
    rw [e]
    exact hP ai' sb hj.1.1 hj.2
end LC2
