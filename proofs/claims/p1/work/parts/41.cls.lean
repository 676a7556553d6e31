/-! the class's weighPlace: the rounds over both mills' openings -/
theorem gC_b {a b : Int} (h : 0 ≤ b) (ha : 0 ≤ a) : 0 ≤ gC a b ∧ gC a b ≤ a ∧ gC a b ≤ b := by unfold gC; split <;> omega
section Cls2
variable {scL : Nat} {scX : Nat → Int} {d : Nat} {fi : tF} {fr : tR} {ai : tF} {al : tL} {P : ot} {nr fa : Nat}
variable {q up lo uW lW nB wB cm : Int}
theorem wp_in (hfa : fa = 234 ∨ fa = 235) (hu : 0 ≤ up ∧ up ≤ 20) (hl : 0 ≤ lo ∧ lo ≤ 20) (hcm : 0 ≤ cm ∧ cm ≤ 2) {x o : Int} (hx : 0 ≤ x ∧ x ≤ 3 ∧ x ≤ up) (hwB : wB ≤ 3)
    (hG : ∀ y, 0 ≤ y → y ≤ lo → -1 ≤ gH uW lW cm (ai fa) up lo x y ∧ gH uW lW cm (ai fa) up lo x y ≤ 1000000) :
    ∀ (n : Nat) (p y most pick : Int) (x20 x21 : Option av), 0 ≤ p → p + n = wB + 1 → -1 ≤ y ∧ y ≤ 20 → -1 ≤ most ∧ most ≤ 1000000 →
    (∀ x18' x19' x20' x21', Rc 1 (Call 1 scL scX (d + 1)) (mt 46) P 244 scL scX 305 (Lw q up lo uW lW nB wB cm (jB (gH uW lW cm (ai fa) up lo x) lo o n p y most pick).1 (jB (gH uW lW cm (ai fa) up lo x) lo o n p y most pick).2 x (some (.inl o)) (some (.inl (gC 20 (up - x + cm) * 21))) x18' x19' x20' x21') [] 244 fi (cF nr fa fr) (cA ai) al) →
    Rc 1 (Call 1 scL scX (d + 1)) (mt 46) P 244 scL scX 201 (Lw q up lo uW lW nB wB cm most pick x (some (.inl o)) (some (.inl (gC 20 (up - x + cm) * 21))) (some (.inl y)) (some (.inl p)) x20 x21) [] 244 fi (cF nr fa fr) (cA ai) al := by
  intro n
  induction n with
  | zero =>
    intro p y most pick x20 x21 hp hn hy hm hk
    refine rc_go [305] 10 ?_
    exact And.intro ⟨rg_sm (by omega) (by omega), rg_sm (by omega) (by omega)⟩ (And.intro (fun _ => hk _ _ _ _) (fun h => absurd (by omega) h))
  | succ n ih =>
    intro p y most pick x20 x21 hp hn hy hm hk
    have hp3 : p ≤ 3 := by omega
    have bc := gC_b (a := 20) (b := up - x + cm) (by omega) (by decide)
    refine rc_go [201, 305] 60 ?_
    refine And.intro ⟨rg_sm (by omega) (by omega), rg_sm (by omega) (by omega)⟩ (And.intro (fun h => absurd h (by omega)) (fun _ => ?_))
    refine And.intro ⟨rg_sm (by omega) (by omega), rg_sm (by omega) (by omega)⟩ (And.intro (fun hyl => ?_) (fun hyl => ?_))
    · unfold jB at hk
      rw [if_pos hyl] at hk
      exact hk _ _ _ _
    · unfold jB at hk
      rw [if_neg hyl] at hk
      refine And.intro ⟨rg_sm (by omega) (by omega), rg_sm (by omega) (by omega)⟩ (And.intro (fun hc => ?_) (fun hc => ?_))
      · have e : gM p lo = lo := by unfold gM; rw [if_neg (by omega)]
        rw [e] at hk
        have hGb := hG lo hl.1 (Int.le_refl _)
        refine And.intro ⟨rg_sm (by omega) (by omega), rg_sm (x := 20) (by omega) (by omega)⟩ (And.intro (fun ht => ?_) (fun ht => ?_))
        · have ht : (20 : Int) ≤ lo - lo + x := ht
          have eG : gH uW lW cm (ai fa) up lo x lo = x * uW + lo * lW + ai fa (gC 20 (up - x + cm) * 21 + 20).toNat := by
            unfold gH
            rw [if_neg (by omega)]
          rcases hfa with rfl | rfl
          · refine And.intro ⟨by omega, by show gC 20 (up - x + cm) * 21 + 20 < 1681; omega⟩ ?_
            refine And.intro ⟨rg_sm (x := x * uW + lo * lW + ai 234 (gC 20 (up - x + cm) * 21 + 20).toNat) (by rw [← eG]; omega) (by rw [← eG]; omega), rg_sm (by omega) (by omega)⟩ (And.intro (fun hb => ?_) (fun hb => ?_))
            · have hb : gH uW lW cm (ai 234) up lo x lo ≤ most := by rw [eG]; exact hb
              rw [if_pos hb] at hk
              exact ih (p + 1) lo most pick _ _ (by omega) (by omega) (by omega) hm hk
            · have hb : ¬ gH uW lW cm (ai 234) up lo x lo ≤ most := by rw [eG]; exact hb
              rw [if_neg hb] at hk
              have := ih (p + 1) lo (gH uW lW cm (ai 234) up lo x lo) (o * 4 + p) (some (.inl (lo - lo + x))) (some (.inl (gH uW lW cm (ai 234) up lo x lo))) (by omega) (by omega) (by omega) hGb hk
              rw [eG] at this
              exact this
          · refine And.intro ⟨by omega, by show gC 20 (up - x + cm) * 21 + 20 < 1681; omega⟩ ?_
            refine And.intro ⟨rg_sm (x := x * uW + lo * lW + ai 235 (gC 20 (up - x + cm) * 21 + 20).toNat) (by rw [← eG]; omega) (by rw [← eG]; omega), rg_sm (by omega) (by omega)⟩ (And.intro (fun hb => ?_) (fun hb => ?_))
            · have hb : gH uW lW cm (ai 235) up lo x lo ≤ most := by rw [eG]; exact hb
              rw [if_pos hb] at hk
              exact ih (p + 1) lo most pick _ _ (by omega) (by omega) (by omega) hm hk
            · have hb : ¬ gH uW lW cm (ai 235) up lo x lo ≤ most := by rw [eG]; exact hb
              rw [if_neg hb] at hk
              have := ih (p + 1) lo (gH uW lW cm (ai 235) up lo x lo) (o * 4 + p) (some (.inl (lo - lo + x))) (some (.inl (gH uW lW cm (ai 235) up lo x lo))) (by omega) (by omega) (by omega) hGb hk
              rw [eG] at this
              exact this
        · have ht : ¬ (20 : Int) ≤ lo - lo + x := ht
          have eG : gH uW lW cm (ai fa) up lo x lo = x * uW + lo * lW + ai fa (gC 20 (up - x + cm) * 21 + (lo - lo + x)).toNat := by
            unfold gH
            rw [if_pos (by omega)]
          rcases hfa with rfl | rfl
          · refine And.intro ⟨by omega, by show gC 20 (up - x + cm) * 21 + (lo - lo + x) < 1681; omega⟩ ?_
            refine And.intro ⟨rg_sm (x := x * uW + lo * lW + ai 234 (gC 20 (up - x + cm) * 21 + (lo - lo + x)).toNat) (by rw [← eG]; omega) (by rw [← eG]; omega), rg_sm (by omega) (by omega)⟩ (And.intro (fun hb => ?_) (fun hb => ?_))
            · have hb : gH uW lW cm (ai 234) up lo x lo ≤ most := by rw [eG]; exact hb
              rw [if_pos hb] at hk
              exact ih (p + 1) lo most pick _ _ (by omega) (by omega) (by omega) hm hk
            · have hb : ¬ gH uW lW cm (ai 234) up lo x lo ≤ most := by rw [eG]; exact hb
              rw [if_neg hb] at hk
              have := ih (p + 1) lo (gH uW lW cm (ai 234) up lo x lo) (o * 4 + p) (some (.inl (lo - lo + x))) (some (.inl (gH uW lW cm (ai 234) up lo x lo))) (by omega) (by omega) (by omega) hGb hk
              rw [eG] at this
              exact this
          · refine And.intro ⟨by omega, by show gC 20 (up - x + cm) * 21 + (lo - lo + x) < 1681; omega⟩ ?_
            refine And.intro ⟨rg_sm (x := x * uW + lo * lW + ai 235 (gC 20 (up - x + cm) * 21 + (lo - lo + x)).toNat) (by rw [← eG]; omega) (by rw [← eG]; omega), rg_sm (by omega) (by omega)⟩ (And.intro (fun hb => ?_) (fun hb => ?_))
            · have hb : gH uW lW cm (ai 235) up lo x lo ≤ most := by rw [eG]; exact hb
              rw [if_pos hb] at hk
              exact ih (p + 1) lo most pick _ _ (by omega) (by omega) (by omega) hm hk
            · have hb : ¬ gH uW lW cm (ai 235) up lo x lo ≤ most := by rw [eG]; exact hb
              rw [if_neg hb] at hk
              have := ih (p + 1) lo (gH uW lW cm (ai 235) up lo x lo) (o * 4 + p) (some (.inl (lo - lo + x))) (some (.inl (gH uW lW cm (ai 235) up lo x lo))) (by omega) (by omega) (by omega) hGb hk
              rw [eG] at this
              exact this
      · have e : gM p lo = p * 1 := by unfold gM; rw [if_pos (by omega)]
        rw [e] at hk
        have hGb := hG (p * 1) (by omega) (by omega)
        refine And.intro ⟨rg_sm (by omega) (by omega), rg_sm (x := 20) (by omega) (by omega)⟩ (And.intro (fun ht => ?_) (fun ht => ?_))
        · have ht : (20 : Int) ≤ lo - (p * 1) + x := ht
          have eG : gH uW lW cm (ai fa) up lo x (p * 1) = x * uW + (p * 1) * lW + ai fa (gC 20 (up - x + cm) * 21 + 20).toNat := by
            unfold gH
            rw [if_neg (by omega)]
          rcases hfa with rfl | rfl
          · refine And.intro ⟨by omega, by show gC 20 (up - x + cm) * 21 + 20 < 1681; omega⟩ ?_
            refine And.intro ⟨rg_sm (x := x * uW + (p * 1) * lW + ai 234 (gC 20 (up - x + cm) * 21 + 20).toNat) (by rw [← eG]; omega) (by rw [← eG]; omega), rg_sm (by omega) (by omega)⟩ (And.intro (fun hb => ?_) (fun hb => ?_))
            · have hb : gH uW lW cm (ai 234) up lo x (p * 1) ≤ most := by rw [eG]; exact hb
              rw [if_pos hb] at hk
              exact ih (p + 1) (p * 1) most pick _ _ (by omega) (by omega) (by omega) hm hk
            · have hb : ¬ gH uW lW cm (ai 234) up lo x (p * 1) ≤ most := by rw [eG]; exact hb
              rw [if_neg hb] at hk
              have := ih (p + 1) (p * 1) (gH uW lW cm (ai 234) up lo x (p * 1)) (o * 4 + p) (some (.inl (lo - (p * 1) + x))) (some (.inl (gH uW lW cm (ai 234) up lo x (p * 1)))) (by omega) (by omega) (by omega) hGb hk
              rw [eG] at this
              exact this
          · refine And.intro ⟨by omega, by show gC 20 (up - x + cm) * 21 + 20 < 1681; omega⟩ ?_
            refine And.intro ⟨rg_sm (x := x * uW + (p * 1) * lW + ai 235 (gC 20 (up - x + cm) * 21 + 20).toNat) (by rw [← eG]; omega) (by rw [← eG]; omega), rg_sm (by omega) (by omega)⟩ (And.intro (fun hb => ?_) (fun hb => ?_))
            · have hb : gH uW lW cm (ai 235) up lo x (p * 1) ≤ most := by rw [eG]; exact hb
              rw [if_pos hb] at hk
              exact ih (p + 1) (p * 1) most pick _ _ (by omega) (by omega) (by omega) hm hk
            · have hb : ¬ gH uW lW cm (ai 235) up lo x (p * 1) ≤ most := by rw [eG]; exact hb
              rw [if_neg hb] at hk
              have := ih (p + 1) (p * 1) (gH uW lW cm (ai 235) up lo x (p * 1)) (o * 4 + p) (some (.inl (lo - (p * 1) + x))) (some (.inl (gH uW lW cm (ai 235) up lo x (p * 1)))) (by omega) (by omega) (by omega) hGb hk
              rw [eG] at this
              exact this
        · have ht : ¬ (20 : Int) ≤ lo - (p * 1) + x := ht
          have eG : gH uW lW cm (ai fa) up lo x (p * 1) = x * uW + (p * 1) * lW + ai fa (gC 20 (up - x + cm) * 21 + (lo - (p * 1) + x)).toNat := by
            unfold gH
            rw [if_pos (by omega)]
          rcases hfa with rfl | rfl
          · refine And.intro ⟨by omega, by show gC 20 (up - x + cm) * 21 + (lo - (p * 1) + x) < 1681; omega⟩ ?_
            refine And.intro ⟨rg_sm (x := x * uW + (p * 1) * lW + ai 234 (gC 20 (up - x + cm) * 21 + (lo - (p * 1) + x)).toNat) (by rw [← eG]; omega) (by rw [← eG]; omega), rg_sm (by omega) (by omega)⟩ (And.intro (fun hb => ?_) (fun hb => ?_))
            · have hb : gH uW lW cm (ai 234) up lo x (p * 1) ≤ most := by rw [eG]; exact hb
              rw [if_pos hb] at hk
              exact ih (p + 1) (p * 1) most pick _ _ (by omega) (by omega) (by omega) hm hk
            · have hb : ¬ gH uW lW cm (ai 234) up lo x (p * 1) ≤ most := by rw [eG]; exact hb
              rw [if_neg hb] at hk
              have := ih (p + 1) (p * 1) (gH uW lW cm (ai 234) up lo x (p * 1)) (o * 4 + p) (some (.inl (lo - (p * 1) + x))) (some (.inl (gH uW lW cm (ai 234) up lo x (p * 1)))) (by omega) (by omega) (by omega) hGb hk
              rw [eG] at this
              exact this
          · refine And.intro ⟨by omega, by show gC 20 (up - x + cm) * 21 + (lo - (p * 1) + x) < 1681; omega⟩ ?_
            refine And.intro ⟨rg_sm (x := x * uW + (p * 1) * lW + ai 235 (gC 20 (up - x + cm) * 21 + (lo - (p * 1) + x)).toNat) (by rw [← eG]; omega) (by rw [← eG]; omega), rg_sm (by omega) (by omega)⟩ (And.intro (fun hb => ?_) (fun hb => ?_))
            · have hb : gH uW lW cm (ai 235) up lo x (p * 1) ≤ most := by rw [eG]; exact hb
              rw [if_pos hb] at hk
              exact ih (p + 1) (p * 1) most pick _ _ (by omega) (by omega) (by omega) hm hk
            · have hb : ¬ gH uW lW cm (ai 235) up lo x (p * 1) ≤ most := by rw [eG]; exact hb
              rw [if_neg hb] at hk
              have := ih (p + 1) (p * 1) (gH uW lW cm (ai 235) up lo x (p * 1)) (o * 4 + p) (some (.inl (lo - (p * 1) + x))) (some (.inl (gH uW lW cm (ai 235) up lo x (p * 1)))) (by omega) (by omega) (by omega) hGb hk
              rw [eG] at this
              exact this
end Cls2
