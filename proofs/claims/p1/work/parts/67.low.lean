/-! the reference's laysLower: what the upper mill lets through, then the best of the lower one's openings from the last quarter on -/
def uS (p : Nat → Int) : Nat → Int
  | 0 => 10
  | q + 1 => gX (uS p q) - gM (p q) (gX (uS p q))
def uT (p : Nat → Int) (q : Nat) : Int := gM (p q) (gX (uS p q))
theorem uS_b {p : Nat → Int} (hp : ∀ k, 0 ≤ p k ∧ p k ≤ 3) : ∀ q, 0 ≤ uS p q ∧ uS p q ≤ 20
  | 0 => by
    show (0 : Int) ≤ 10 ∧ (10 : Int) ≤ 20
    decide
  | q + 1 => by
    have ih := uS_b hp q
    have h := hp q
    unfold uS
    rw [gM_mn, gX_mn]
    omega
theorem uT_b {p : Nat → Int} (hp : ∀ k, 0 ≤ p k ∧ p k ≤ 3) (q : Nat) : 0 ≤ uT p q ∧ uT p q ≤ 3 := by
  have ih := uS_b hp q
  have h := hp q
  unfold uT
  rw [gM_mn, gX_mn]
  omega
def Ll (cl u q : Int) (x4 x5 x6 x7 x8 x9 : Option av) : List (Option av) := [some (.inr (.inl (some 54))), some (.inl cl), some (.inl u), some (.inl q), x4, x5, x6, x7, x8, x9]
section Low1
variable {scL : Nat} {scX : Nat → Int} {d N : Nat} {fi : tF} {fr : tR} {ai : tF} {al : tL} {P : ot} {cl : Int}
theorem l1_b {u q x v : Int} {x5 x6 x7 x8 x9 : Option av} (hq : 0 ≤ q ∧ q < 96)
    (hk : Rc 1 (Call 1 scL scX (d + 3)) (mt 167) P N scL scX 10 (Ll cl (x - v) (q + 1) (some (.inl x)) x5 x6 x7 x8 x9) [] N fi (rF fr) (rA (up2 ai 129 q.toNat v)) al) :
    Rc 1 (Call 1 scL scX (d + 3)) (mt 167) P N scL scX 65 (Ll cl u q (some (.inl x)) x5 x6 x7 x8 x9) [.inl v, .inl q, .inr (.inl (some 129))] N fi (rF fr) (rA ai) al := by
  rw [← rA_up (by decide) (by decide)] at hk
  have e : up2 (rA ai) 129 q.toNat v 129 q.toNat = v := by rw [up2_if, if_pos ⟨rfl, rfl⟩]
  have fin : Rc 1 (Call 1 scL scX (d + 3)) (mt 167) P N scL scX 10 (Ll cl (x - up2 (rA ai) 129 q.toNat v 129 q.toNat) (q + 1) (some (.inl x)) x5 x6 x7 x8 x9) [] N fi (rF fr) (up2 (rA ai) 129 q.toNat v) al := by
    rw [e]
    exact hk
  refine rc_go [10] 20 ?_
  refine And.intro ⟨hq.1, by show q < 96; omega⟩ (And.intro ⟨hq.1, by show q < 96; omega⟩ ?_)
  exact fin
theorem l1_r {u q a : Int} {x4 x5 x6 x7 x8 x9 : Option av} (hq : 0 ≤ q ∧ q < 96) (hu : 0 ≤ u ∧ u ≤ 20) (ha : 0 ≤ a ∧ a ≤ 3) (hc : (cl = 1 ∧ a = 0) ∨ (cl = 0 ∧ ai 80 q.toNat = a))
    (hk : Rc 1 (Call 1 scL scX (d + 3)) (mt 167) P N scL scX 10 (Ll cl (gX u - gM a (gX u)) (q + 1) (some (.inl (gX u))) x5 x6 x7 x8 x9) [] N fi (rF fr) (rA (up2 ai 129 q.toNat (gM a (gX u)))) al) :
    Rc 1 (Call 1 scL scX (d + 3)) (mt 167) P N scL scX 10 (Ll cl u q x4 x5 x6 x7 x8 x9) [] N fi (rF fr) (rA ai) al := by
  have bx := gX_b hu
  refine rc_go [65] 60 ?_
  refine And.intro ⟨rg_sm (by omega) (by omega), ⟨by decide, by decide⟩⟩ (And.intro (fun h => absurd (show (96 : Int) ≤ q from h) (by omega)) (fun _ => ?_))
  refine Exists.intro N (And.intro ⟨Nat.le_refl _, Nat.le_refl _⟩ (c_comes hq.1 hq.2 ?_))
  refine And.intro ⟨by decide, by decide⟩ ?_
  refine Exists.intro N (And.intro ⟨Nat.le_refl _, Nat.le_refl _⟩ (c_less (a := u + 2) (b := 20) (rg_sm (by omega) (by omega)) (rg_sm (by omega) (by omega)) ?_))
  rcases hc with ⟨rfl, rfl⟩ | ⟨rfl, rfl⟩
  · refine And.intro (fun h => absurd h (by decide)) (fun _ => And.intro ⟨by decide, by decide⟩ (And.intro ⟨by decide, by decide⟩ ?_))
    have e : gM 0 (gX u) = 0 := by rw [gM_mn]; omega
    rw [e] at hk
    exact l1_b (u := u) (x := gX u) hq hk
  · refine And.intro (fun _ => ?_) (fun h => absurd rfl h)
    refine Exists.intro N (And.intro ⟨Nat.le_refl _, Nat.le_refl _⟩ (c_openBy (m := 0) (Or.inl rfl) hq.1 hq.2 ?_))
    refine And.intro ⟨by decide, by decide⟩ ?_
    refine Exists.intro N (And.intro ⟨Nat.le_refl _, Nat.le_refl _⟩ (c_less (a := ai 80 q.toNat * 1) (b := gX u) (rg_sm (by omega) (by omega)) (rg_sm (by omega) (by omega)) ?_))
    exact l1_b (u := u) (x := gX u) hq hk
/-- the row of what the upper lets through, behind q quarters -/
def ltR (p : Nat → Int) (a0 : tF) (q : Nat) (A : tF) : Prop := (∀ o, o ≠ 129 → A o = a0 o) ∧ ∀ k, k < q → A 129 k = uT p k
theorem l1_l {p : Nat → Int} {a0 : tF} (hp : ∀ k, 0 ≤ p k ∧ p k ≤ 3) (hc : (cl = 1 ∧ ∀ k, k < 96 → p k = 0) ∨ (cl = 0 ∧ ∀ k, k < 96 → a0 80 k = p k)) {x5 x6 x7 x8 x9 : Option av}
    (hk : ∀ A u x4, ltR p a0 96 A → Rc 1 (Call 1 scL scX (d + 3)) (mt 167) P N scL scX 82 (Ll cl u 96 x4 x5 x6 x7 x8 x9) [] N fi (rF fr) (rA A) al) :
    ∀ (n q : Nat) (A : tF) (x4 : Option av), q + n = 96 → ltR p a0 q A → Rc 1 (Call 1 scL scX (d + 3)) (mt 167) P N scL scX 10 (Ll cl (uS p q) q x4 x5 x6 x7 x8 x9) [] N fi (rF fr) (rA A) al := by
  intro n
  induction n with
  | zero =>
    intro q A x4 hn hA
    have e : q = 96 := by omega
    subst e
    refine rc_go [82] 10 ?_
    exact And.intro ⟨⟨by decide, by decide⟩, ⟨by decide, by decide⟩⟩ (And.intro (fun _ => hk A _ _ hA) (fun h => absurd (by decide : (96 : Int) ≤ 96) h))
  | succ n ih =>
    intro q A x4 hn hA
    refine l1_r (a := p q) ⟨by omega, by omega⟩ (uS_b hp q) (hp q) ?_ ?_
    · rcases hc with ⟨h1, h2⟩ | ⟨h1, h2⟩
      · exact Or.inl ⟨h1, h2 q (by omega)⟩
      · exact Or.inr ⟨h1, by rw [hA.1 80 (by decide)]; exact h2 q (by omega)⟩
    · refine ih (q + 1) _ _ (by omega) ⟨fun o ho => ?_, fun k hkk => ?_⟩
      · rw [up2_row ho]
        exact hA.1 o ho
      · rw [up2_if]
        by_cases e : k = q
        · subst e
          rw [if_pos ⟨rfl, rfl⟩]
          rfl
        · rw [if_neg (fun z => e z.2)]
          exact hA.2 k (by omega)
theorem l2_l {u : Int} {A : tF} {x4 x5 x6 x7 x8 x9 : Option av}
    (hk : ∀ q, Rc 1 (Call 1 scL scX (d + 3)) (mt 167) P N scL scX 103 (Ll cl u q x4 x5 x6 x7 x8 x9) [] N fi (rF fr) (rA (fN A 131 41 0)) al) :
    ∀ (n k : Nat), k + n = 41 → Rc 1 (Call 1 scL scX (d + 3)) (mt 167) P N scL scX 84 (Ll cl u k x4 x5 x6 x7 x8 x9) [] N fi (rF fr) (rA (fN A 131 k 0)) al := by
  intro n
  induction n with
  | zero =>
    intro k hn
    have e : k = 41 := by omega
    subst e
    refine rc_go [103] 10 ?_
    exact And.intro ⟨⟨by decide, by decide⟩, ⟨by decide, by decide⟩⟩ (And.intro (fun _ => hk _) (fun h => absurd (by decide : (41 : Int) ≤ 41) h))
  | succ n ih =>
    intro k hn
    have key := ih (k + 1) (by omega)
    rw [← fN_up, ← rA_up (by decide) (by decide)] at key
    refine rc_go [84] 20 ?_
    refine And.intro ⟨rg_sm (by omega) (by omega), ⟨by decide, by decide⟩⟩ (And.intro (fun h => absurd (show (41 : Int) ≤ (k : Int) from h) (by omega)) (fun _ => ?_))
    refine And.intro ⟨by omega, by show (k : Int) < 41; omega⟩ ?_
    exact key
end Low1
