/-! the class's freeBoth -/
theorem cF_by {nr fa : Nat} {fr : tR} : up2 (cF nr fa fr) 233 9 (some 3) = cF nr fa fr := by
  funext i j
  rw [up2_if]
  by_cases h : i = 233 ∧ j = 9
  · rw [if_pos h, h.1, h.2]; rfl
  · rw [if_neg h]
theorem cp_wd {ai : tF} : cpR (cA ai) 15 0 238 0 192 = cA (fN ai 238 192 3) := by
  funext i j
  rw [cpR_if, ← fN_cA (by decide)]
  unfold fN
  by_cases h : i = 238 ∧ j < 192
  · rw [if_pos ⟨h.1, by omega, by omega⟩, if_pos h]; rfl
  · rw [if_neg (by omega), if_neg h]
section Fr
variable {scL : Nat} {scX : Nat → Int} {d : Nat} {fi : tF} {fr : tR} {ai : tF} {al : tL} {P : ot} {nr fa : Nat}
theorem c_freeBoth (hP : P (.inl none) (up2 fi 233 10 (fi 3 6)) (cF nr fa fr) (cA (fN (fN ai 237 192 0) 238 192 3)) al) : Call 1 scL scX (d + 2) 37 [.inr (.inl (some 233)), .inr (.inl (some 3))] 244 fi (cF nr fa fr) (cA ai) al 244 P := by
  rw [← cp_wd, ← fN_cA (by decide), ← cF_by (nr := nr) (fa := fa) (fr := fr)] at hP
  refine ⟨⟨Nat.le_refl _, rfl⟩, rc_go [] 30 ?_⟩
  refine Exists.intro 244 (And.intro ⟨Nat.le_refl _, Nat.le_refl _⟩ (c_fill_237 ?_))
  refine And.intro ⟨by decide, by decide, by decide, by decide, by decide⟩ ?_
  exact And.intro rfl hP
end Fr
