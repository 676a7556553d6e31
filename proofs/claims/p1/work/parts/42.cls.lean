/-! the class's weighPlace: the outer rounds, and the method -/
theorem gM_min {o up : Int} : (if up < o * 1 then up else o * 1) = gM o up := by
  unfold gM
  by_cases h : up < o * 1
  · rw [if_pos h, if_neg (by omega)]
  · by_cases h2 : o * 1 < up
    · rw [if_neg h, if_pos h2]
    · rw [if_neg h, if_neg h2]; omega
theorem jB_b {G : Int → Int} {lo o M : Int} (hl : 0 ≤ lo) (hG : ∀ y, 0 ≤ y → y ≤ lo → -1 ≤ G y ∧ G y ≤ M) : ∀ (n : Nat) (p y most pick : Int), 0 ≤ p → -1 ≤ most ∧ most ≤ M → -1 ≤ (jB G lo o n p y most pick).1 ∧ (jB G lo o n p y most pick).1 ≤ M
  | 0, _, _, _, _, _, h => h
  | n + 1, p, y, most, pick, hp, h => by
    have hg : 0 ≤ gM p lo ∧ gM p lo ≤ lo := by unfold gM; split <;> omega
    unfold jB
    split
    · exact h
    · split
      · exact jB_b hl hG n _ _ _ _ (by omega) h
      · exact jB_b hl hG n _ _ _ _ (by omega) (hG _ hg.1 hg.2)
section Cls3
variable {scL : Nat} {scX : Nat → Int} {d : Nat} {fi : tF} {fr : tR} {ai : tF} {al : tL} {P : ot} {nr fa : Nat}
variable {q up lo uW lW fB wB cm : Int}
theorem wp_out (hq : 0 ≤ q ∧ q < 96) (hfa : fa = 234 ∨ fa = 235) (hw : fi 233 13 = 21) (hu : 0 ≤ up ∧ up ≤ 20) (hl : 0 ≤ lo ∧ lo ≤ 20) (hcm : 0 ≤ cm ∧ cm ≤ 2) (hfB : 0 ≤ fB) (hwB : wB ≤ 3) {nB : Nat} (hnB : fB + nB = wB + 1) {tA : Int} (htA : tA ≤ 3) (hwd : ai 238 q.toNat = tA)
    (hG : ∀ x y, 0 ≤ x → x ≤ 3 → x ≤ up → 0 ≤ y → y ≤ lo → -1 ≤ gH uW lW cm (ai fa) up lo x y ∧ gH uW lW cm (ai fa) up lo x y ≤ 1000000) :
    ∀ (n : Nat) (o x most pick : Int) (x17 x18 x19 x20 x21 : Option av), 0 ≤ o → o + n = tA + 1 → -1 ≤ x ∧ x ≤ 3 → -1 ≤ most ∧ most ≤ 1000000 →
    (∀ x15' x16' x17' x18' x19' x20' x21', Rc 1 (Call 1 scL scX (d + 1)) (mt 46) P 244 scL scX 311 (Lw q up lo uW lW fB wB cm (jA (gH uW lW cm (ai fa) up lo) up lo fB nB n o x most pick).1 (jA (gH uW lW cm (ai fa) up lo) up lo fB nB n o x most pick).2 x15' x16' x17' x18' x19' x20' x21') [] 244 fi (cF nr fa fr) (cA ai) al) →
    Rc 1 (Call 1 scL scX (d + 1)) (mt 46) P 244 scL scX 147 (Lw q up lo uW lW fB wB cm most pick x (some (.inl o)) x17 x18 x19 x20 x21) [] 244 fi (cF nr fa fr) (cA ai) al := by
  intro n
  induction n with
  | zero =>
    intro o x most pick x17 x18 x19 x20 x21 ho hn hx hm hk
    refine rc_go [311] 12 ?_
    refine And.intro ⟨hq.1, by show q < 192; omega⟩ ?_
    subst hwd
    exact And.intro ⟨rg_sm (by omega) (by omega), rg_sm (x := ai 238 q.toNat) (by omega) (by omega)⟩ (And.intro (fun _ => hk _ _ _ _ _ _ _) (fun h => absurd (show ai 238 q.toNat < o by omega) h))
  | succ n ih =>
    intro o x most pick x17 x18 x19 x20 x21 ho hn hx hm hk
    have ho3 : o ≤ 3 := by omega
    have bg := gM_b (a := o) (x := up) ⟨ho, ho3⟩ hu
    refine rc_go [201, 311] 60 ?_
    refine And.intro ⟨hq.1, by show q < 192; omega⟩ ?_
    refine And.intro ⟨rg_sm (by omega) (by omega), rg_sm (x := ai 238 q.toNat) (by omega) (by omega)⟩ (And.intro (fun h => absurd (show ai 238 q.toNat < o from h) (by omega)) (fun _ => ?_))
    refine And.intro ⟨rg_sm (by omega) (by omega), rg_sm (by omega) (by omega)⟩ (And.intro (fun hxu => ?_) (fun hxu => ?_))
    · unfold jA at hk
      rw [if_pos hxu] at hk
      exact hk _ _ _ _ _ _ _
    · unfold jA at hk
      rw [if_neg hxu] at hk
      refine And.intro ⟨rg_sm (by omega) (by omega), rg_sm (by omega) (by omega)⟩ ?_
      have e := gM_min (o := o) (up := up)
      have hbx : 0 ≤ (if up < o * 1 then up else o * 1) ∧ (if up < o * 1 then up else o * 1) ≤ 3 ∧ (if up < o * 1 then up else o * 1) ≤ up := by rw [e]; exact bg
      refine And.intro ⟨⟨by decide, by decide⟩, rg_sm (x := up - (if up < o * 1 then up else o * 1) + cm) (by omega) (by omega)⟩ ?_
      have := wp_in (d := d) (scL := scL) (scX := scX) (fi := fi) (fr := fr) (al := al) (P := P) (nr := nr) (q := q) (nB := fB) hfa hu hl hcm (x := gM o up) (o := o) bg hwB (fun y => hG (gM o up) y bg.1 bg.2.1 bg.2.2) nB fB (-1) most pick x20 x21 hfB hnB ⟨by omega, by omega⟩ hm (fun x18' x19' x20' x21' => by
        refine rc_go [147] 10 ?_
        exact ih (o + 1) (gM o up) _ _ _ x18' x19' x20' x21' (by omega) (by omega) ⟨by omega, by omega⟩ (jB_b hl.1 (fun y => hG (gM o up) y bg.1 bg.2.1 bg.2.2) nB fB (-1) most pick hfB hm) hk)
      rw [← e, ← hw] at this
      exact this
end Cls3
