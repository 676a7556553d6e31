/-! the class's freeOne, with plans (cell 29) or without -/
/-- both rows of openings set to p from place o on, n places -/
def foN (a : tF) (o n : Nat) (p : Nat → Int) : tF := fun i j => if (i = 237 ∨ i = 238) ∧ o ≤ j ∧ j < o + n then p j else a i j
theorem foN_0 (a : tF) (o : Nat) (p : Nat → Int) : foN a o 0 p = a := by
  funext i j
  unfold foN
  rw [if_neg (by omega)]
theorem foN_row {a : tF} {o n i : Nat} {p : Nat → Int} (h1 : i ≠ 237) (h2 : i ≠ 238) : foN a o n p i = a i := by
  funext j
  unfold foN
  rw [if_neg (by omega)]
theorem foN_up (a : tF) (o k : Nat) (p : Nat → Int) : up2 (up2 (cA (foN a o k p)) 237 (o + k) (p (o + k))) 238 (o + k) (up2 (cA (foN a o k p)) 237 (o + k) (p (o + k)) 237 (o + k)) = cA (foN a o (k + 1) p) := by
  have e : up2 (cA (foN a o k p)) 237 (o + k) (p (o + k)) 237 (o + k) = p (o + k) := by rw [up2_if, if_pos ⟨rfl, rfl⟩]
  rw [e, cA_up rfl, cA_up rfl]
  congr 1
  funext i j
  rw [up2_if, up2_if]
  unfold foN
  by_cases h8 : i = 238 ∧ j = o + k
  · rw [if_pos h8, if_pos (by omega), h8.2]
  · rw [if_neg h8]
    by_cases h7 : i = 237 ∧ j = o + k
    · rw [if_pos h7, if_pos (by omega), h7.2]
    · rw [if_neg h7]
      by_cases h : (i = 237 ∨ i = 238) ∧ o ≤ j ∧ j < o + k
      · rw [if_pos h, if_pos (by omega)]
      · rw [if_neg h, if_neg (by omega)]
def Lo1 (m : Int) (pls : Option Nat) (o : Nat) (x5 : Option av) : List (Option av) := [some (.inr (.inl (some 233))), some (.inr (.inl (some 3))), some (.inl m), some (.inr (.inl pls)), some (.inl (o : Int)), x5]
/-- what the other mill opens by -/
def plO (pls : Option Nat) (a : tF) (p : Nat → Int) : Prop := (∀ k, 0 ≤ p k ∧ p k ≤ 3) ∧ ((pls = none ∧ ∀ k, k < 192 → p k = 0) ∨ (pls = some 29 ∧ ∀ k, k < 192 → a 29 k = p k))
section One
variable {scL : Nat} {scX : Nat → Int} {d : Nat} {fi : tF} {fr : tR} {a : tF} {al : tL} {P : ot} {nr fa : Nat} {m : Int} {pls : Option Nat} {p : Nat → Int} {o : Nat}
theorem fo_l (hp : plO pls a p) (ho : o + 96 ≤ 192) (hk : ∀ x5, Rc 1 (Call 1 scL scX (d + 1)) (mt 38) P 244 scL scX 69 (Lo1 m pls o x5) [] 244 fi (cF nr fa fr) (cA (foN a o 96 p)) al) :
    ∀ (n k : Nat), k + n = 96 → Rc 1 (Call 1 scL scX (d + 1)) (mt 38) P 244 scL scX 17 (Lo1 m pls o (some (.inl ((o + k : Nat) : Int)))) [] 244 fi (cF nr fa fr) (cA (foN a o k p)) al := by
  intro n
  induction n with
  | zero =>
    intro k hn
    have e : k = 96 := by omega
    subst e
    refine rc_go [69] 10 ?_
    exact And.intro ⟨rg_sm (by omega) (by omega), rg_sm (x := (o : Int) + 96) (by omega) (by omega)⟩ (And.intro (fun _ => hk _) (fun h => absurd (show (o : Int) + 96 ≤ ((o + 96 : Nat) : Int) by omega) h))
  | succ n ih =>
    intro k hn
    have key := ih (k + 1) (by omega)
    rw [← foN_up] at key
    have i1 : inb ((o + k : Nat) : Int) 192 := ⟨by omega, by show ((o + k : Nat) : Int) < 192; omega⟩
    refine rc_go [17] 40 ?_
    refine And.intro ⟨rg_sm (by omega) (by omega), rg_sm (x := (o : Int) + 96) (by omega) (by omega)⟩ (And.intro (fun h => absurd (show (o : Int) + 96 ≤ ((o + k : Nat) : Int) from h) (by omega)) (fun _ => ?_))
    obtain ⟨hb, hc⟩ := hp
    rcases hc with ⟨rfl, hz⟩ | ⟨rfl, hz⟩
    · refine And.intro (fun h => absurd rfl h) (fun _ => ?_)
      rw [hz (o + k) (by omega)] at key
      refine And.intro i1 (And.intro i1 (And.intro i1 ?_))
      exact key
    · refine And.intro (fun _ => ?_) (fun h => nomatch h)
      have e29 : foN a o k p 29 (o + k) = p (o + k) := by
        rw [foN_row (by decide) (by decide)]
        exact hz (o + k) (by omega)
      rw [← e29] at key
      have b29 := hb (o + k)
      rw [← e29] at b29
      refine Exists.intro 244 (And.intro ⟨by decide, by decide⟩ (c_asItMay (k := ((o + k : Nat) : Int)) ⟨by omega, by omega⟩ b29 ?_))
      refine And.intro i1 (And.intro i1 (And.intro i1 ?_))
      exact key
theorem fo_end {f : tF} {x5 : Option av} (hP : P (.inl none) (up2 (up2 f 233 11 (1 - m)) 233 12 m) fr a al) : Rc 1 (Call 1 scL scX (d + 1)) (mt 38) P 244 scL scX 69 (Lo1 m pls o x5) [] 244 f fr a al := by
  refine rc_go [] 12 ?_
  refine Exists.intro 244 (And.intro ⟨by decide, by decide⟩ (c_weighBy ?_))
  exact And.intro rfl hP
/-- the first place of the other mill's quarters -/
def oth (m : Int) : Nat := ((1 - m) * 96).toNat
theorem fo_go (hm : m = 0 ∨ m = 1) {f : tF} {b : tF} (hp : plO pls b p) (hP : P (.inl none) (up2 (up2 f 233 11 (1 - m)) 233 12 m) (cF nr fa fr) (cA (foN b (oth m) 96 p)) al) :
    Rc 1 (Call 1 scL scX (d + 1)) (mt 38) P 244 scL scX 17 (Lo1 m pls (oth m) (some (.inl ((1 - m) * 96)))) [] 244 f (cF nr fa fr) (cA b) al := by
  have ho : oth m + 96 ≤ 192 := by unfold oth; omega
  have key := fo_l (d := d) (scL := scL) (scX := scX) (fi := f) (fr := fr) (al := al) (P := P) (nr := nr) (fa := fa) (m := m) hp ho (fun x5 => fo_end hP) 96 0 (by decide)
  rw [foN_0] at key
  have e : ((oth m + 0 : Nat) : Int) = (1 - m) * 96 := by unfold oth; omega
  rw [e] at key
  exact key
theorem c_freeOne {ai : tF} (hm : m = 0 ∨ m = 1) (hp : plO pls ai p) (hP : P (.inl none) (up2 (up2 (up2 fi 233 10 (fi 3 6)) 233 11 (1 - m)) 233 12 m) (cF nr fa fr) (cA (foN (fN (fN ai 237 192 0) 238 192 3) (oth m) 96 p)) al) :
    Call 1 scL scX (d + 3) 38 [.inr (.inl (some 233)), .inr (.inl (some 3)), .inl m, .inr (.inl pls)] 244 fi (cF nr fa fr) (cA ai) al 244 P := by
  refine ⟨⟨Nat.le_refl _, rfl⟩, rc_go [17] 20 ?_⟩
  refine Exists.intro 244 (And.intro ⟨by decide, by decide⟩ (c_freeBoth ?_))
  have hp' : plO pls (fN (fN ai 237 192 0) 238 192 3) p := by
    unfold plO at hp ⊢
    rw [fN_row (by decide), fN_row (by decide)]
    exact hp
  have key := fo_go (d := d + 1) (scL := scL) (scX := scX) hm hp' hP
  have e : ((oth m : Nat) : Int) = (1 - m) * 96 := by unfold oth; omega
  unfold Lo1 at key
  rw [e] at key
  exact key
theorem c_freeOne0 {ai : tF} (hm : m = 0 ∨ m = 1) (hp : plO pls ai p) (hP : P (.inl none) (up2 (up2 (up2 fi 233 10 (fi 3 6)) 233 11 (1 - m)) 233 12 m) (cF 234 235 fr) (cA (foN (fN (fN ai 237 192 0) 238 192 3) (oth m) 96 p)) al) :
    Call 1 scL scX (d + 3) 38 [.inr (.inl (some 233)), .inr (.inl (some 3)), .inl m, .inr (.inl pls)] 244 fi (cF0 fr) (cA ai) al 244 P := by
  refine ⟨⟨Nat.le_refl _, rfl⟩, rc_go [17] 20 ?_⟩
  refine Exists.intro 244 (And.intro ⟨by decide, by decide⟩ (c_freeBoth0 ?_))
  have hp' : plO pls (fN (fN ai 237 192 0) 238 192 3) p := by
    unfold plO at hp ⊢
    rw [fN_row (by decide), fN_row (by decide)]
    exact hp
  have key := fo_go (d := d + 1) (scL := scL) (scX := scX) hm hp' hP
  have e : ((oth m : Nat) : Int) = (1 - m) * 96 := by unfold oth; omega
  unfold Lo1 at key
  rw [e] at key
  exact key
end One
/-- the openings of both when one is free -/
def oA (m : Int) (p : Nat → Int) : Int → Int := fun q => if m = 0 then 0 else p q.toNat
def oB (m : Int) (p : Nat → Int) : Int → Int := fun q => if m = 0 then p (96 + q).toNat else 0
def nA1 (m : Int) : Nat := if m = 0 then 4 else 1
def nB1 (m : Int) : Nat := if m = 0 then 1 else 4
theorem opn_A {m : Int} (hm : m = 0 ∨ m = 1) {p : Nat → Int} (hp : ∀ k, 0 ≤ p k ∧ p k ≤ 3) : opn (oA m p) (nA1 m) ∧ opn (oB m p) (nB1 m) := by
  rcases hm with rfl | rfl
  · exact ⟨⟨by decide, fun q _ _ => ⟨Int.le_refl 0, Int.le_refl 4⟩⟩, ⟨by decide, fun q _ _ => by
      have := hp (96 + q).toNat
      show 0 ≤ p (96 + q).toNat ∧ p (96 + q).toNat + 1 ≤ 4
      omega⟩⟩
  · exact ⟨⟨by decide, fun q _ _ => by
      have := hp q.toNat
      show 0 ≤ p q.toNat ∧ p q.toNat + 1 ≤ 4
      omega⟩, ⟨by decide, fun q _ _ => ⟨Int.le_refl 0, Int.le_refl 4⟩⟩⟩
theorem rowF_one {m : Int} (hm : m = 0 ∨ m = 1) {ai : tF} {p : Nat → Int} : rowF (oA m p) (oB m p) (nA1 m) (nB1 m) (foN (fN (fN ai 237 192 0) 238 192 3) (oth m) 96 p) := by
  intro q h0 h1
  have e7 : ∀ k, k < 192 → fN (fN ai 237 192 0) 238 192 3 237 k = 0 := fun k hk => by rw [fN_row (by decide), fN_at hk]
  have e8 : ∀ k, k < 192 → fN (fN ai 237 192 0) 238 192 3 238 k = 3 := fun k hk => fN_at hk
  rcases hm with rfl | rfl
  · have ho : oth 0 = 96 := rfl
    rw [ho]
    unfold foN
    rw [if_neg (by omega), if_neg (by omega), if_pos (by omega), if_pos (by omega), e7 _ (by omega), e8 _ (by omega)]
    refine ⟨rfl, rfl, rfl, ?_⟩
    show p (96 + q).toNat = p (96 + q).toNat + 1 - 1
    omega
  · have ho : oth 1 = 0 := rfl
    rw [ho]
    unfold foN
    rw [if_pos (by omega), if_pos (by omega), if_neg (by omega), if_neg (by omega), e7 _ (by omega), e8 _ (by omega)]
    refine ⟨rfl, ?_, rfl, rfl⟩
    show p q.toNat = p q.toNat + 1 - 1
    omega
