/-! Arrays.fill of ints, on the cells that are filled -/
def fN (A : tF) (c n : Nat) (v : Int) : tF := fun i j => if i = c ∧ j < n then v else A i j
theorem fN_0 (A : tF) (c : Nat) (v : Int) : fN A c 0 v = A := by
  funext i j
  unfold fN
  rw [if_neg (by omega)]
theorem fN_up (A : tF) (c k : Nat) (v : Int) : up2 (fN A c k v) c k v = fN A c (k + 1) v := by
  funext i j
  rw [up2_if]
  unfold fN
  by_cases h : i = c ∧ j = k
  · rw [if_pos h, if_pos ⟨h.1, by omega⟩]
  · rw [if_neg h]
    by_cases h2 : i = c ∧ j < k
    · rw [if_pos h2, if_pos ⟨h2.1, by omega⟩]
    · rw [if_neg h2, if_neg (by omega)]
theorem fN_cA {ai : tF} {c n : Nat} {v : Int} (h : 16 ≤ c) : fN (cA ai) c n v = cA (fN ai c n v) := by
  funext i j
  unfold fN cA
  dsimp only
  by_cases hc : i = c ∧ j < n
  · have e : ∀ k, k < 16 → Nat.beq i k = false := fun k hk => by
      cases e : Nat.beq i k
      · rfl
      · have := Nat.eq_of_beq_eq_true e
        omega
    rw [if_pos hc, if_pos hc, e 4 (by omega), e 5 (by omega), e 6 (by omega), e 7 (by omega), e 14 (by omega), e 15 (by omega)]; rfl
  · rw [if_neg hc, if_neg hc]
section Fill
variable {scL : Nat} {scX : Nat → Int} {d : Nat} {fi : tF} {fr : tR} {A : tF} {al : tL} {P : ot} {v : Int}
theorem fl_234 : ∀ (n k : Nat), k + n = 1681 → P (.inl none) fi fr (fN A 234 1681 v) al → Rc 1 (Call 1 scL scX d) (mt 217) P 244 scL scX 5 [some (.inr (.inl (some 234))), some (.inl v), some (.inl (k : Int)), some (.inl 1681)] [] 244 fi fr (fN A 234 k v) al := by
  intro n
  induction n with
  | zero =>
    intro k hk hP
    have e : k = 1681 := by omega
    subst e
    refine rc_go [] 10 ?_
    exact And.intro ⟨rg_sm (by omega) (by omega), rg_sm (by omega) (by omega)⟩ (And.intro (fun _ => And.intro rfl hP) (fun h => absurd (by decide : (1681 : Int) ≤ 1681) h))
  | succ n ih =>
    intro k hk hP
    refine rc_go [5] 20 ?_
    refine And.intro ⟨rg_sm (by omega) (by omega), rg_sm (x := 1681) (by omega) (by omega)⟩ (And.intro (fun h => absurd (show (1681 : Int) ≤ (k : Int) from h) (by omega)) (fun _ => ?_))
    refine And.intro ⟨by omega, by show (k : Int) < 1681; omega⟩ ?_
    have := ih (k + 1) (by omega) hP
    rw [← fN_up] at this
    exact this
theorem c_fill_234 (hP : P (.inl none) fi fr (fN A 234 1681 v) al) : Call 1 scL scX (d + 1) 217 [.inr (.inl (some 234)), .inl v] 244 fi fr A al 244 P := by
  refine ⟨⟨Nat.le_refl _, rfl⟩, rc_go [5] 10 ?_⟩
  have := fl_234 (scL := scL) (scX := scX) (d := d) (A := A) 1681 0 (by decide) hP
  rw [fN_0] at this
  exact this
theorem fl_235 : ∀ (n k : Nat), k + n = 1681 → P (.inl none) fi fr (fN A 235 1681 v) al → Rc 1 (Call 1 scL scX d) (mt 217) P 244 scL scX 5 [some (.inr (.inl (some 235))), some (.inl v), some (.inl (k : Int)), some (.inl 1681)] [] 244 fi fr (fN A 235 k v) al := by
  intro n
  induction n with
  | zero =>
    intro k hk hP
    have e : k = 1681 := by omega
    subst e
    refine rc_go [] 10 ?_
    exact And.intro ⟨rg_sm (by omega) (by omega), rg_sm (by omega) (by omega)⟩ (And.intro (fun _ => And.intro rfl hP) (fun h => absurd (by decide : (1681 : Int) ≤ 1681) h))
  | succ n ih =>
    intro k hk hP
    refine rc_go [5] 20 ?_
    refine And.intro ⟨rg_sm (by omega) (by omega), rg_sm (x := 1681) (by omega) (by omega)⟩ (And.intro (fun h => absurd (show (1681 : Int) ≤ (k : Int) from h) (by omega)) (fun _ => ?_))
    refine And.intro ⟨by omega, by show (k : Int) < 1681; omega⟩ ?_
    have := ih (k + 1) (by omega) hP
    rw [← fN_up] at this
    exact this
theorem c_fill_235 (hP : P (.inl none) fi fr (fN A 235 1681 v) al) : Call 1 scL scX (d + 1) 217 [.inr (.inl (some 235)), .inl v] 244 fi fr A al 244 P := by
  refine ⟨⟨Nat.le_refl _, rfl⟩, rc_go [5] 10 ?_⟩
  have := fl_235 (scL := scL) (scX := scX) (d := d) (A := A) 1681 0 (by decide) hP
  rw [fN_0] at this
  exact this
theorem fl_237 : ∀ (n k : Nat), k + n = 192 → P (.inl none) fi fr (fN A 237 192 v) al → Rc 1 (Call 1 scL scX d) (mt 217) P 244 scL scX 5 [some (.inr (.inl (some 237))), some (.inl v), some (.inl (k : Int)), some (.inl 192)] [] 244 fi fr (fN A 237 k v) al := by
  intro n
  induction n with
  | zero =>
    intro k hk hP
    have e : k = 192 := by omega
    subst e
    refine rc_go [] 10 ?_
    exact And.intro ⟨rg_sm (by omega) (by omega), rg_sm (by omega) (by omega)⟩ (And.intro (fun _ => And.intro rfl hP) (fun h => absurd (by decide : (192 : Int) ≤ 192) h))
  | succ n ih =>
    intro k hk hP
    refine rc_go [5] 20 ?_
    refine And.intro ⟨rg_sm (by omega) (by omega), rg_sm (x := 192) (by omega) (by omega)⟩ (And.intro (fun h => absurd (show (192 : Int) ≤ (k : Int) from h) (by omega)) (fun _ => ?_))
    refine And.intro ⟨by omega, by show (k : Int) < 192; omega⟩ ?_
    have := ih (k + 1) (by omega) hP
    rw [← fN_up] at this
    exact this
theorem c_fill_237 (hP : P (.inl none) fi fr (fN A 237 192 v) al) : Call 1 scL scX (d + 1) 217 [.inr (.inl (some 237)), .inl v] 244 fi fr A al 244 P := by
  refine ⟨⟨Nat.le_refl _, rfl⟩, rc_go [5] 10 ?_⟩
  have := fl_237 (scL := scL) (scX := scX) (d := d) (A := A) 192 0 (by decide) hP
  rw [fN_0] at this
  exact this
end Fill
