/-! the reference's lays: one sweep over all states of a quarter -/
def Ly (who q x3 x4 x5 x6 : Int) (x7 x8 x9 : Option av) : List (Option av) := [some (.inr (.inl (some 54))), some (.inl who), some (.inl q), some (.inl x3), some (.inl x4), some (.inl x5), some (.inl x6), x7, x8, x9]
/-- the heap's rows behind one state -/
def onS (wA wB mk fB : Int) (nB : Nat) (q u l w : Int) (ai : tF) : tF := up2 (up2 ai 126 ((u * 41 + l) * 13 + w).toNat (iA (gF wA wB mk (ai 127) u l w) fB nB 4 0 (-1) 0).1) 128 ((q * 21853 + ((u * 41 + l) * 13 + w)).tdiv 8).toNat (chB (ai 128 ((q * 21853 + ((u * 41 + l) * 13 + w)).tdiv 8).toNat) (q * 21853 + ((u * 41 + l) * 13 + w)) (iA (gF wA wB mk (ai 127) u l w) fB nB 4 0 (-1) 0).2)
section Sweep
variable {scL : Nat} {scX : Nat → Int} {d N : Nat} {fi : tF} {fr : tR} {al : tL} {P : ot} {who q p fb fB tB : Int} {nB : Nat} {I : tF → Int → Int → Int → Prop}
theorem sw_w (h0 : 0 ≤ q) (h1 : q < 96) (hmk : 0 ≤ fi 54 39 ∧ fi 54 39 ≤ 40) (hb : (fb = 1 ∧ fB = 0 ∧ tB = 3) ∨ (fb = 0 ∧ fB = p ∧ tB = p)) (htB : tB ≤ 3) (hfB : 0 ≤ fB) (hnB : fB + nB = tB + 1) {u l : Int} (hu : 0 ≤ u ∧ u ≤ 20) (hl : 0 ≤ l ∧ l ≤ 20)
    (hF : ∀ ai w, I ai u l w → ∀ a j, 0 ≤ a → a ≤ 3 → 0 ≤ j → j ≤ 3 → -1 ≤ gF (fi 54 37) (fi 54 38) (fi 54 39) (ai 127) u l w a j ∧ gF (fi 54 37) (fi 54 38) (fi 54 39) (ai 127) u l w a j ≤ 1000000)
    (hI : ∀ ai w, 0 ≤ w → w ≤ 3 → I ai u l w → I (onS (fi 54 37) (fi 54 38) (fi 54 39) fB nB q u l w ai) u l (w + 1)) :
    ∀ (n : Nat) (w sb : Int) (ai : tF), 0 ≤ w → w + n = 4 → I ai u l w →
    (∀ ai' sb' x9', I ai' u l 4 → Rc 1 (Call 1 scL scX (d + 4)) (mt 164) P N scL scX 214 (Ly who q 1 fb 0 p (some (.inl u)) (some (.inl l)) x9') [] N (up2 fi 54 40 sb') (rF fr) (rA ai') al) →
    Rc 1 (Call 1 scL scX (d + 4)) (mt 164) P N scL scX 142 (Ly who q 1 fb 0 p (some (.inl u)) (some (.inl l)) (some (.inl w))) [] N (up2 fi 54 40 sb) (rF fr) (rA ai) al := by
  intro n
  induction n with
  | zero =>
    intro w sb ai hw hn hi hk
    have e : w = 4 := by omega
    subst e
    refine rc_go [214] 12 ?_
    refine And.intro ⟨by decide, by decide⟩ ?_
    exact And.intro ⟨rg_sm (by omega) (by omega), rg_sm (x := 3) (by omega) (by omega)⟩ (And.intro (fun _ => hk ai sb _ hi) (fun h => absurd (by decide : (3 : Int) < 4) h))
  | succ n ih =>
    intro w sb ai hw hn hi hk
    have hw3 : w ≤ 3 := by omega
    refine rc_go [142, 214] 60 ?_
    refine And.intro ⟨by decide, by decide⟩ ?_
    refine And.intro ⟨rg_sm (by omega) (by omega), rg_sm (x := 3) (by omega) (by omega)⟩ (And.intro (fun h => absurd (show (3 : Int) < w from h) (by omega)) (fun _ => ?_))
    refine And.intro (fun h => absurd h (by decide)) (fun _ => And.intro ⟨by decide, by decide⟩ (And.intro ⟨by decide, by decide⟩ ?_))
    refine And.intro (fun h => absurd h (by decide)) (fun _ => And.intro ⟨by decide, by decide⟩ (And.intro ⟨by decide, by decide⟩ ?_))
    rcases hb with ⟨rfl, rfl, rfl⟩ | ⟨rfl, rfl, rfl⟩
    · refine And.intro (fun h => absurd h (by decide)) (fun _ => And.intro ⟨by decide, by decide⟩ (And.intro ⟨by decide, by decide⟩ ?_))
      refine And.intro (fun h => absurd h (by decide)) (fun _ => And.intro ⟨by decide, by decide⟩ (And.intro ⟨by decide, by decide⟩ ?_))
      refine Exists.intro N (And.intro ⟨Nat.le_refl _, Nat.le_refl _⟩ (c_laysOne (nA := 4) (nB := nB) h0 h1 hu hl ⟨hw, hw3⟩ (show 0 ≤ fi 54 39 ∧ fi 54 39 ≤ 40 from hmk) (by decide) (by decide) (by decide) (by decide) (by decide) hnB (hF ai w hi) (fun sb' => ?_)))
      rw [up2_up2]
      exact ih (w + 1) sb' _ (by omega) (by omega) (hI ai w hw hw3 hi) hk
    · refine And.intro (fun _ => ?_) (fun h => absurd rfl h)
      refine And.intro (fun _ => ?_) (fun h => absurd rfl h)
      refine Exists.intro N (And.intro ⟨Nat.le_refl _, Nat.le_refl _⟩ (c_laysOne (nA := 4) (nB := nB) h0 h1 hu hl ⟨hw, hw3⟩ (show 0 ≤ fi 54 39 ∧ fi 54 39 ≤ 40 from hmk) (by decide) (by decide) htB hfB (by decide) hnB (hF ai w hi) (fun sb' => ?_)))
      rw [up2_up2]
      exact ih (w + 1) sb' _ (by omega) (by omega) (hI ai w hw hw3 hi) hk
end Sweep
