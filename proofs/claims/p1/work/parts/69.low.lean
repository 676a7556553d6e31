/-! laysLower as a whole -/
def cpM (A : tF) (n : Nat) : tF := fun i j => if i = 131 ∧ j < n then A 130 j else A i j
theorem cpM_0 (A : tF) : cpM A 0 = A := by
  funext i j
  unfold cpM
  rw [if_neg (by omega)]
theorem cpM_up (A : tF) (k : Nat) : up2 (rA (cpM A k)) 131 k (rA (cpM A k) 130 k) = rA (cpM A (k + 1)) := by
  rw [rA_up (by decide) (by decide)]
  congr 1
  funext i j
  rw [up2_if]
  have e : rA (cpM A k) 130 k = A 130 k := by
    show cpM A k 130 k = _
    unfold cpM
    rw [if_neg (by omega)]
  rw [e]
  unfold cpM
  by_cases h : i = 131 ∧ j = k
  · rw [if_pos h, if_pos ⟨h.1, by omega⟩, h.2]
  · rw [if_neg h]
    by_cases h2 : i = 131 ∧ j < k
    · rw [if_pos h2, if_pos ⟨h2.1, by omega⟩]
    · rw [if_neg h2, if_neg (by omega)]
def lJ (T : Nat → Int) (a0 : tF) (q : Int) (A : tF) : Prop := (∀ o, o ≠ 130 → o ≠ 131 → (o < 133 ∨ 228 < o) → A o = a0 o) ∧ (∀ l, 0 ≤ l → l ≤ 20 → A 131 l.toNat = LV T (95 - q).toNat l) ∧ ∀ p l, q < p → 0 ≤ p → p < 96 → 0 ≤ l → l ≤ 20 → A (132 + 1 + p.toNat) l.toNat = LK T (95 - p).toNat l
def lI (T : Nat → Int) (a0 : tF) (q : Int) (A : tF) (l : Int) : Prop := lJ T a0 q A ∧ ∀ k, 0 ≤ k → k < l → k ≤ 20 → A 130 k.toNat = LV T (96 - q).toNat k ∧ A (132 + 1 + q.toNat) k.toNat = LK T (95 - q).toNat k
section Low3
variable {scL : Nat} {scX : Nat → Int} {d N : Nat} {fi : tF} {fr : tR} {al : tL} {P : ot} {cl u : Int} {T : Nat → Int} {a0 : tF}
theorem lG_lF (hT : ∀ k, 0 ≤ T k ∧ T k ≤ 3) {q : Int} {A : tF} (hq : 0 ≤ q ∧ q < 96) (hj : lJ T a0 q A) {l j : Int} (hl : 0 ≤ l ∧ l ≤ 20) (h0 : 0 ≤ j) (h3 : j ≤ 3) : lG (A 131) (gY l (prv T q.toNat)) j = lF (LV T (95 - q).toNat) (prv T (95 - (95 - q).toNat)) l j := by
  have by' := gY_b hl (prv_b hT q.toNat)
  have bn := gM_b (a := j) ⟨h0, h3⟩ by'
  rw [show 95 - (95 - q).toNat = q.toNat by omega]
  unfold lG lF
  rw [hj.2.1 _ (by omega) (by omega)]
theorem l3_l (hT : ∀ k, 0 ≤ T k ∧ T k ≤ 3) (h129 : ∀ k, k < 96 → a0 129 k = T k) {q : Int} (hq : 0 ≤ q ∧ q < 96) :
    ∀ (n : Nat) (l : Int) (A : tF) (x5 x6 x7 x8 x9 : Option av), 0 ≤ l → l + n = 21 → lI T a0 q A l →
    (∀ A' x5' x6' x7' x8' x9', lI T a0 q A' 21 → Rc 1 (Call 1 scL scX (d + 3)) (mt 167) P N scL scX 271 (Ll cl u q (some (.inl 21)) x5' x6' x7' x8' x9') [] N fi (rF fr) (rA A') al) →
    Rc 1 (Call 1 scL scX (d + 3)) (mt 167) P N scL scX 113 (Ll cl u q (some (.inl l)) x5 x6 x7 x8 x9) [] N fi (rF fr) (rA A) al := by
  intro n
  induction n with
  | zero =>
    intro l A x5 x6 x7 x8 x9 h0 hn hi hk
    have e : l = 21 := by omega
    subst e
    refine rc_go [271] 12 ?_
    refine And.intro ⟨by decide, by decide⟩ ?_
    exact And.intro ⟨⟨by decide, by decide⟩, show rg 20 from ⟨by decide, by decide⟩⟩ (And.intro (fun _ => hk A _ _ _ _ _ hi) (fun h => absurd (by decide : (20 : Int) < 21) h))
  | succ n ih =>
    intro l A x5 x6 x7 x8 x9 h0 hn hi hk
    obtain ⟨hj, hv⟩ := hi
    have hl : 0 ≤ l ∧ l ≤ 20 := ⟨h0, by omega⟩
    have hA : ∀ k, k < 96 → A 129 k = T k := fun k hk => by rw [hj.1 129 (by decide) (by decide) (Or.inl (by decide))]; exact h129 k hk
    have by' := gY_b hl (prv_b hT q.toNat)
    have hFe : ∀ j, 0 ≤ j → j ≤ 3 → lG (A 131) (gY l (prv T q.toNat)) j = lF (LV T (95 - q).toNat) (prv T (95 - (95 - q).toNat)) l j := fun j a b => lG_lF hT hq hj hl a b
    have hF0 : ∀ j, 0 ≤ j → j ≤ 3 → 0 ≤ lG (A 131) (gY l (prv T q.toNat)) j ∧ lG (A 131) (gY l (prv T q.toNat)) j ≤ 1000000 := fun j a b => by
      have bn := gM_b (a := j) ⟨a, b⟩ by'
      have bl := LV_b hT (95 - q).toNat (gY l (prv T q.toNat) - gM j (gY l (prv T q.toNat))) ⟨by omega, by omega⟩
      unfold lG
      rw [hj.2.1 _ (by omega) (by omega)]
      split <;> omega
    have en : (96 - q).toNat = (95 - q).toNat + 1 := by omega
    refine l3_h hT hA hq hl ?_
    rw [← up2_id A (132 + 1 + q.toNat) l.toNat]
    refine l3_b hq hl by' (fun j a b => ⟨by have := (hF0 j a b).1; omega, (hF0 j a b).2⟩) 4 0 (-1) (A (132 + 1 + q.toNat) l.toNat) x8 x9 (by decide) (by decide) ⟨by decide, by decide⟩ (fun x8' x9' => ?_)
    have ew : iC (lG (A 131) (gY l (prv T q.toNat))) 4 0 (-1) (A (132 + 1 + q.toNat) l.toNat) = iC (lF (LV T (95 - q).toNat) (prv T (95 - (95 - q).toNat)) l) 4 0 (-1) 0 := by
      rw [iC_w (w' := 0) (by have := (hF0 0 (by decide) (by decide)).1; omega)]
      exact iC_cg 4 0 (-1) 0 (fun j a b => hFe j a (by omega))
    rw [ew]
    refine rc_go [113] 12 ?_
    refine And.intro ⟨hl.1, by show l < 41; omega⟩ ?_
    rw [rA_up (by decide) (by decide)]
    refine ih (l + 1) _ _ _ _ _ _ (by omega) (by omega) ⟨⟨fun o z1 z2 z3 => ?_, fun k k0 k1 => ?_, fun p k p1 p2 p3 k0 k1 => ?_⟩, fun k k0 k1 k2 => ⟨?_, ?_⟩⟩ hk
    · rw [up2_row z1, up2_row (by omega)]
      exact hj.1 o z1 z2 z3
    · rw [up2_row (by decide), up2_row (by omega)]
      exact hj.2.1 k k0 k1
    · rw [up2_row (by omega), up2_row (by omega)]
      exact hj.2.2 p k p1 p2 p3 k0 k1
    · rw [up2_if]
      by_cases e : k = l
      · subst e
        rw [if_pos ⟨rfl, rfl⟩, en]
        rfl
      · rw [if_neg (by omega), up2_row (by omega)]
        exact (hv k k0 (by omega) k2).1
    · rw [up2_row (by omega), up2_if]
      by_cases e : k = l
      · subst e
        rw [if_pos ⟨rfl, rfl⟩]
        rfl
      · rw [if_neg (by omega)]
        exact (hv k k0 (by omega) k2).2
theorem l3_cp {q : Int} {A : tF} {x5 x6 x7 x8 x9 : Option av}
    (hk : ∀ x4', Rc 1 (Call 1 scL scX (d + 3)) (mt 167) P N scL scX 301 (Ll cl u q x4' x5 x6 x7 x8 x9) [] N fi (rF fr) (rA (cpM A 41)) al) :
    ∀ (n k : Nat), k + n = 41 → Rc 1 (Call 1 scL scX (d + 3)) (mt 167) P N scL scX 274 (Ll cl u q (some (.inl (k : Int))) x5 x6 x7 x8 x9) [] N fi (rF fr) (rA (cpM A k)) al := by
  intro n
  induction n with
  | zero =>
    intro k hn
    have e : k = 41 := by omega
    subst e
    refine rc_go [301] 10 ?_
    exact And.intro ⟨⟨by decide, by decide⟩, ⟨by decide, by decide⟩⟩ (And.intro (fun _ => hk _) (fun h => absurd (by decide : (41 : Int) ≤ 41) h))
  | succ n ih =>
    intro k hn
    have key := ih (k + 1) (by omega)
    rw [← cpM_up] at key
    refine rc_go [274] 20 ?_
    refine And.intro ⟨rg_sm (by omega) (by omega), ⟨by decide, by decide⟩⟩ (And.intro (fun h => absurd (show (41 : Int) ≤ (k : Int) from h) (by omega)) (fun _ => ?_))
    refine And.intro ⟨by omega, by show (k : Int) < 41; omega⟩ ?_
    refine And.intro ⟨by omega, by show (k : Int) < 41; omega⟩ ?_
    exact key
theorem l3_q (hT : ∀ k, 0 ≤ T k ∧ T k ≤ 3) (h129 : ∀ k, k < 96 → a0 129 k = T k) (hP : ∀ A, lJ T a0 (-1) A → P (.inl (some (.inl (LV T 96 10)))) fi (rF fr) (rA A) al) :
    ∀ (n : Nat) (q : Int) (A : tF) (x4 x5 x6 x7 x8 x9 : Option av), q + 1 = n → q < 96 → lJ T a0 q A → Rc 1 (Call 1 scL scX (d + 3)) (mt 167) P N scL scX 106 (Ll cl u q x4 x5 x6 x7 x8 x9) [] N fi (rF fr) (rA A) al := by
  intro n
  induction n with
  | zero =>
    intro q A x4 x5 x6 x7 x8 x9 hn hq hj
    have e : q = -1 := by omega
    subst e
    have h := hP A hj
    have ev : A 131 10 = LV T 96 10 := hj.2.1 10 (by decide) (by decide)
    rw [← ev] at h
    refine rc_go [] 20 ?_
    refine And.intro ⟨⟨by decide, by decide⟩, ⟨by decide, by decide⟩⟩ (And.intro (fun _ => ?_) (fun h => absurd (by decide : (-1 : Int) < 0) h))
    refine And.intro ⟨by decide, by decide⟩ (And.intro (show inb 10 41 from ⟨by decide, by decide⟩) ?_)
    exact And.intro rfl h
  | succ n ih =>
    intro q A x4 x5 x6 x7 x8 x9 hn hq hj
    have h0 : 0 ≤ q := by omega
    refine rc_go [113] 12 ?_
    refine And.intro ⟨rg_sm (by omega) (by omega), ⟨by decide, by decide⟩⟩ (And.intro (fun h => absurd (show q < 0 from h) (by omega)) (fun _ => ?_))
    refine l3_l hT h129 ⟨h0, hq⟩ 21 0 A x5 x6 x7 x8 x9 (by decide) (by decide) ⟨hj, fun k k0 k1 => by omega⟩ (fun A' x5' x6' x7' x8' x9' hi => ?_)
    refine rc_go [274] 10 ?_
    have key : ∀ x4', Rc 1 (Call 1 scL scX (d + 3)) (mt 167) P N scL scX 301 (Ll cl u q x4' x5' x6' x7' x8' x9') [] N fi (rF fr) (rA (cpM A' 41)) al := by
      intro x4'
      refine rc_go [106] 10 ?_
      have er : ∀ o, o ≠ 131 → cpM A' 41 o = A' o := fun o ho => by
        funext j
        unfold cpM
        rw [if_neg (fun z => ho z.1)]
      refine ih (q - 1) _ _ _ _ _ _ _ (by omega) (by omega) ⟨fun o z1 z2 z3 => ?_, fun k k0 k1 => ?_, fun p k p1 p2 p3 k0 k1 => ?_⟩
      · rw [er o z2]
        exact hi.1.1 o z1 z2 z3
      · have e : cpM A' 41 131 k.toNat = A' 130 k.toNat := by
          unfold cpM
          rw [if_pos ⟨rfl, by omega⟩]
        rw [e, show (95 - (q - 1)).toNat = (96 - q).toNat by omega]
        exact (hi.2 k k0 (by omega) k1).1
      · rw [er _ (by omega)]
        by_cases e : p = q
        · subst e
          exact (hi.2 k k0 (by omega) k1).2
        · exact hi.1.2.2 p k (by omega) p2 p3 k0 k1
    have := l3_cp (A := A') key 41 0 (by decide)
    rw [cpM_0] at this
    exact this
/-- what laysLower leaves: what the upper lets through, and the choices -/
def llO (T : Nat → Int) (a0 A : tF) : Prop := (∀ o, o < 129 ∨ 228 < o → A o = a0 o) ∧ (∀ k, k < 96 → A 129 k = T k) ∧ ∀ p l : Int, 0 ≤ p → p < 96 → 0 ≤ l → l ≤ 20 → A (132 + 1 + p.toNat) l.toNat = LK T (95 - p).toNat l
theorem c_laysLower {p : Nat → Int} {ai : tF} (hp : ∀ k, 0 ≤ p k ∧ p k ≤ 3) (hc : (cl = 1 ∧ ∀ k, k < 96 → p k = 0) ∨ (cl = 0 ∧ ∀ k, k < 96 → ai 80 k = p k))
    (hP : ∀ A, llO (uT p) ai A → P (.inl (some (.inl (LV (uT p) 96 10)))) fi (rF fr) (rA A) al) : Call 1 scL scX (d + 4) 167 [.inr (.inl (some 54)), .inl cl] N fi (rF fr) (rA ai) al N P := by
  refine ⟨⟨Nat.le_refl _, rfl⟩, rc_go [10] 20 ?_⟩
  refine And.intro ⟨by decide, by decide⟩ ?_
  refine l1_l (a0 := ai) hp hc (fun A u x4 hA => ?_) 96 0 ai none (by decide) ⟨fun _ _ => rfl, fun k hk => by omega⟩
  have key : ∀ q, Rc 1 (Call 1 scL scX (d + 3)) (mt 167) P N scL scX 103 (Ll cl u q x4 none none none none none) [] N fi (rF fr) (rA (fN A 131 41 0)) al := by
    intro q
    refine rc_go [106] 10 ?_
    refine l3_q (T := uT p) (a0 := A) (uT_b hp) hA.2 (fun A' hj => hP A' ⟨fun o ho => ?_, fun k hk => ?_, fun q l q0 q1 l0 l1 => hj.2.2 q l (by omega) q0 q1 l0 l1⟩) 96 95 _ _ _ _ _ _ _ (by decide) (by decide) ⟨fun o z1 z2 z3 => fN_row z2, fun l l0 l1 => ?_, fun q l q1 q2 q3 => by omega⟩
    · rw [hj.1 o (by omega) (by omega) (by omega)]
      exact hA.1 o (by omega)
    · rw [hj.1 129 (by decide) (by decide) (Or.inl (by decide))]
      exact hA.2 k hk
    · rw [fN_at (by omega)]; rfl
  have h2 := l2_l (cl := cl) (u := u) (A := A) key 41 0 (by decide)
  rw [fN_0] at h2
  refine rc_go [84] 10 ?_
  exact h2
end Low3
