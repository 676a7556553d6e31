/-! lays answers the value: its invariants filled in -/
def sx (u l w : Int) : Nat := ((u * 41 + l) * 13 + w).toNat
theorem up2_row {α : Type} {f : Nat → Nat → α} {o k o' : Nat} {v : α} (h : o' ≠ o) : up2 f o k v o' = f o' := by
  funext j
  rw [up2_if, if_neg (by omega)]
theorem gY_b4 {l w : Int} (h : 0 ≤ l ∧ l ≤ 20) (h2 : 0 ≤ w) : 0 ≤ gY l w ∧ gY l w ≤ 20 := by unfold gY; split <;> omega
section Val2
variable {wA wB mk who : Int} {pl : Nat → Int} {a0 : tF}
def vJ (wA wB mk who : Int) (pl : Nat → Int) (a0 : tF) (ai : tF) (q : Int) : Prop := (∀ o, o ≠ 126 → o ≠ 127 → o ≠ 128 → ai o = a0 o) ∧ ∀ u l w, 0 ≤ u ∧ u ≤ 20 → 0 ≤ l ∧ l ≤ 20 → 0 ≤ w ∧ w ≤ 3 → ai 127 (sx u l w) = rV wA wB mk (pB who pl) (nBw who) (95 - q).toNat u l w
def vI (wA wB mk who : Int) (pl : Nat → Int) (a0 : tF) (q : Int) (ai : tF) (u l w : Int) : Prop := vJ wA wB mk who pl a0 ai q ∧ 0 ≤ w ∧ ∀ u' l' w', 0 ≤ u' ∧ u' ≤ 20 → 0 ≤ l' ∧ l' ≤ 20 → 0 ≤ w' ∧ w' ≤ 3 → (u' < u ∨ (u' = u ∧ (l' < l ∨ (l' = l ∧ w' < w)))) → ai 126 (sx u' l' w') = rV wA wB mk (pB who pl) (nBw who) (96 - q).toNat u' l' w'
theorem fq_b (hwho : who = 3 ∨ who = 1 ∨ who = 5) (hpl : ∀ k, 0 ≤ pl k ∧ pl k ≤ 3) (q : Int) : 0 ≤ pB who pl q ∧ pB who pl q + (nBw who : Int) ≤ 4 := by
  have := pB_b (who := who) hpl q
  rcases hwho with rfl | rfl | rfl
  · exact ⟨this.1, by show pB 3 pl q + 4 ≤ 4; have : pB 3 pl q = 0 := rfl; omega⟩
  · exact ⟨this.1, by show pB 1 pl q + 1 ≤ 4; omega⟩
  · exact ⟨this.1, by show pB 5 pl q + 1 ≤ 4; omega⟩
theorem gF_gP {ai : tF} {q : Int} (hj : vJ wA wB mk who pl a0 ai q) {u l w a j : Int} (hu : 0 ≤ u ∧ u ≤ 20) (hl : 0 ≤ l ∧ l ≤ 20) (hw : 0 ≤ w) (ha : 0 ≤ a ∧ a ≤ 3) (hb : 0 ≤ j ∧ j ≤ 3) : gF wA wB mk (ai 127) u l w a j = gP wA wB mk (rV wA wB mk (pB who pl) (nBw who) (95 - q).toNat) u l w a j := by
  have bx := gX_b hu
  have by' := gY_b4 hl hw
  have bm := gM_b ha bx
  have bn := gM_b hb by'
  unfold gF gP
  rw [← hj.2 (gX u - gM a (gX u)) (gY l w - gM j (gY l w)) (gM a (gX u)) ⟨by omega, by omega⟩ ⟨by omega, by omega⟩ ⟨bm.1, bm.2.1⟩]
  rfl
theorem sx_ne {u l w u' l' w' : Int} (hl : 0 ≤ l ∧ l ≤ 20) (hw : 0 ≤ w ∧ w ≤ 3) (hu : 0 ≤ u) (hu' : 0 ≤ u') (hl' : 0 ≤ l' ∧ l' ≤ 20) (hw' : 0 ≤ w' ∧ w' ≤ 3) (h : sx u l w = sx u' l' w') : u = u' ∧ l = l' ∧ w = w' := by
  unfold sx at h
  omega
theorem vI_step (hwho : who = 3 ∨ who = 1 ∨ who = 5) (hpl : ∀ k, 0 ≤ pl k ∧ pl k ≤ 3) {q : Int} (h0 : 0 ≤ q) (h1 : q < 96) {ai : tF} {u l w : Int} (hu : 0 ≤ u ∧ u ≤ 20) (hl : 0 ≤ l ∧ l ≤ 20) (hw : 0 ≤ w ∧ w ≤ 3) (h : vI wA wB mk who pl a0 q ai u l w) : vI wA wB mk who pl a0 q (onS wA wB mk (pB who pl q) (nBw who) q u l w ai) u l (w + 1) := by
  obtain ⟨hj, -, hv⟩ := h
  have e127 : onS wA wB mk (pB who pl q) (nBw who) q u l w ai 127 = ai 127 := by
    unfold onS
    rw [up2_row (by decide), up2_row (by decide)]
  refine ⟨⟨fun o h1 h2 h3 => ?_, fun u' l' w' b1 b2 b3 => ?_⟩, by omega, fun u' l' w' b1 b2 b3 hlt => ?_⟩
  · unfold onS
    rw [up2_row h3, up2_row h1]
    exact hj.1 o h1 h2 h3
  · rw [e127]
    exact hj.2 u' l' w' b1 b2 b3
  · unfold onS
    rw [up2_row (by decide), up2_if]
    by_cases he : sx u' l' w' = sx u l w
    · obtain ⟨rfl, rfl, rfl⟩ := sx_ne b2 b3 b1.1 hu.1 hl hw he
      rw [if_pos ⟨rfl, rfl⟩]
      have en : (96 - q).toNat = (95 - q).toNat + 1 := by omega
      rw [en]
      unfold rV
      rw [show (95 : Int) - ((95 - q).toNat : Int) = q by omega]
      have hf := fq_b hwho hpl q
      rw [iA_cg 4 0 (-1) 0 (fun i j q1 q2 q3 q4 => gF_gP hj hu hl hw.1 ⟨q1, by omega⟩ ⟨by omega, by omega⟩)]
    · rw [if_neg (fun z => he z.2)]
      refine hv u' l' w' b1 b2 b3 ?_
      by_cases hc : u' = u ∧ l' = l ∧ w' = w
      · obtain ⟨rfl, rfl, rfl⟩ := hc
        exact absurd rfl he
      · omega
end Val2
section Val3
variable {scL : Nat} {scX : Nat → Int} {d N : Nat} {fi : tF} {fr : tR} {ai : tF} {al : tL} {P : ot} {who : Int} {pl : Nat → Int}
theorem c_laysV (hA : 0 ≤ fi 54 37 ∧ fi 54 37 ≤ 9) (hB : 0 ≤ fi 54 38 ∧ fi 54 38 ≤ 9) (hmk : 0 ≤ fi 54 39 ∧ fi 54 39 ≤ 40) (hwho : who = 3 ∨ who = 1 ∨ who = 5) (hpl : ∀ k, 0 ≤ pl k ∧ pl k ≤ 3) (h81 : ai 81 = pl)
    (hP : ∀ ai' sb, (∀ o, o ≠ 126 → o ≠ 127 → o ≠ 128 → ai' o = ai o) → P (.inl (some (.inl (rV (fi 54 37) (fi 54 38) (fi 54 39) (pB who pl) (nBw who) 96 10 10 0)))) (up2 fi 54 40 sb) (rF fr) (rA ai') al) :
    Call 1 scL scX (d + 5) 164 [.inr (.inl (some 54)), .inl who] N fi (rF fr) (rA ai) al N P := by
  refine c_lays (J := vJ (fi 54 37) (fi 54 38) (fi 54 39) who pl ai) (I := vI (fi 54 37) (fi 54 38) (fi 54 39) who pl ai) hmk hwho hpl ?_ ?_ ?_ ?_ ?_ ?_ ?_ ?_ ?_
  · intro a q hj
    rw [hj.1 81 (by decide) (by decide) (by decide)]
    exact h81
  · intro a q h0 h1 hj
    exact ⟨hj, Int.le_refl _, fun u' l' w' b1 b2 b3 hlt => by omega⟩
  · intro q a u l w h0 h1 u0 u1 l0 l1 hi a' j a0 a3 j0 j3
    rw [gF_gP hi.1 ⟨u0, u1⟩ ⟨l0, l1⟩ hi.2.1 ⟨a0, a3⟩ ⟨j0, j3⟩]
    have bx := gX_b ⟨u0, u1⟩
    have by' := gY_b4 ⟨l0, l1⟩ hi.2.1
    have bm := gM_b ⟨a0, a3⟩ bx
    have bn := gM_b ⟨j0, j3⟩ by'
    have hg := gV_b (mk := fi 54 39) (x := gX u) (y := gY l w) hA hB ⟨bm.1, bm.2.1⟩ ⟨bn.1, bn.2.1⟩
    have hv := rV_b (mk := fi 54 39) hA hB (fq_b hwho hpl) (95 - q).toNat (gX u - gM a' (gX u)) (gY l w - gM j (gY l w)) (gM a' (gX u)) ⟨by omega, by omega⟩ ⟨by omega, by omega⟩ ⟨bm.1, bm.2.1⟩
    unfold gP
    exact ⟨by omega, by omega⟩
  · intro q a u l w h0 h1 u0 u1 l0 l1 w0 w3 hi
    exact vI_step hwho hpl h0 h1 ⟨u0, u1⟩ ⟨l0, l1⟩ ⟨w0, w3⟩ hi
  · intro q a u l u0 u1 l0 l1 hi
    exact ⟨hi.1, Int.le_refl _, fun u' l' w' b1 b2 b3 hlt => hi.2.2 u' l' w' b1 b2 b3 (by omega)⟩
  · intro q a u u0 u1 hi
    exact ⟨hi.1, Int.le_refl _, fun u' l' w' b1 b2 b3 hlt => hi.2.2 u' l' w' b1 b2 b3 (by omega)⟩
  · intro q a h0 h1 hi
    refine ⟨fun o h1 h2 h3 => ?_, fun u l w b1 b2 b3 => ?_⟩
    · have e : cpN a 21853 o = a o := by
        funext j
        unfold cpN
        rw [if_neg (by omega)]
      rw [e]
      exact hi.1.1 o h1 h2 h3
    · have e : cpN a 21853 127 (sx u l w) = a 126 (sx u l w) := by
        unfold cpN
        rw [if_pos ⟨rfl, by unfold sx; omega⟩]
      rw [e, show (95 - (q - 1)).toNat = (96 - q).toNat by omega]
      exact hi.2.2 u l w b1 b2 b3 (by omega)
  · refine ⟨fun o h1 h2 h3 => ?_, fun u l w b1 b2 b3 => ?_⟩
    · funext j
      unfold zN
      rw [if_neg (by omega)]
    · show zN ai 21853 127 (sx u l w) = 0
      unfold zN
      rw [if_pos ⟨rfl, by unfold sx; omega⟩]
  · intro ai' sb hj
    have e : ai' 127 5460 = rV (fi 54 37) (fi 54 38) (fi 54 39) (pB who pl) (nBw who) 96 10 10 0 := hj.2 10 10 0 ⟨by decide, by decide⟩ ⟨by decide, by decide⟩ ⟨by decide, by decide⟩
    rw [e]
    exact hP ai' sb hj.1
end Val3
