/-! the reference's lays: the whole method -/
theorem cpN_0 (ai : tF) : cpN ai 0 = ai := by
  funext i j
  unfold cpN
  rw [if_neg (by omega)]
theorem zN_0 (ai : tF) : zN ai 0 = ai := by
  funext i j
  unfold zN
  rw [if_neg (by omega)]
def pB (who : Int) (pl : Nat → Int) (q : Int) : Int := if who = 1 then pl q.toNat else 0
def nBw (who : Int) : Nat := if who = 3 then 4 else 1
def fbw (who : Int) : Int := if who = 3 then 1 else 0
section Lays3
variable {scL : Nat} {scX : Nat → Int} {d N : Nat} {fi : tF} {fr : tR} {al : tL} {P : ot} {who : Int} {pl : Nat → Int}
theorem ly_hd {q : Int} (h0 : 0 ≤ q) (h1 : q < 96) (hwho : who = 3 ∨ who = 1 ∨ who = 5) {ai : tF} (hpl : ai 81 = pl) {x3 x4 x5 x6 x7 x8 x9 : Option av} {fi : tF}
    (hk : Rc 1 (Call 1 scL scX (d + 4)) (mt 164) P N scL scX 114 (Ly who q 1 (fbw who) 0 (pB who pl q) (some (.inl 0)) x8 x9) [] N fi (rF fr) (rA ai) al) :
    Rc 1 (Call 1 scL scX (d + 4)) (mt 164) P N scL scX 25 (Lz who (some (.inl q)) x3 x4 x5 x6 x7 x8 x9) [] N fi (rF fr) (rA ai) al := by
  have r0 : rg 0 := ⟨by decide, by decide⟩
  have r1 : rg 1 := ⟨by decide, by decide⟩
  have r2 : rg 2 := ⟨by decide, by decide⟩
  refine rc_go [114] 80 ?_
  refine And.intro ⟨rg_sm (by omega) (by omega), r0⟩ (And.intro (fun h => absurd h (by omega)) (fun _ => ?_))
  subst hpl
  rcases hwho with rfl | rfl | rfl
  · refine And.intro (fun h => absurd wa_31 h) (fun _ => ?_)
    refine Exists.intro N (And.intro ⟨Nat.le_refl _, Nat.le_refl _⟩ (c_mayOpen (Or.inl rfl) h0 h1 ?_))
    refine And.intro (fun h => absurd h (by decide)) (fun _ => And.intro r1 (And.intro r0 ?_))
    refine And.intro (fun h => absurd wa_32 h) (fun _ => ?_)
    refine Exists.intro N (And.intro ⟨Nat.le_refl _, Nat.le_refl _⟩ (c_mayOpen (Or.inr rfl) h0 h1 ?_))
    refine And.intro (fun h => absurd h (by decide)) (fun _ => And.intro r1 (And.intro r0 ?_))
    refine And.intro (fun _ => And.intro (by rw [wa_35]; exact r1) (And.intro r0 ?_)) (fun h => absurd h (by rw [wa_35]; decide))
    refine And.intro (fun _ => And.intro (by rw [wa_36]; exact r2) (And.intro r0 ?_)) (fun h => absurd h (by rw [wa_36]; decide))
    exact hk
  · refine And.intro (fun h => absurd wa_11 h) (fun _ => ?_)
    refine Exists.intro N (And.intro ⟨Nat.le_refl _, Nat.le_refl _⟩ (c_mayOpen (Or.inl rfl) h0 h1 ?_))
    refine And.intro (fun h => absurd h (by decide)) (fun _ => And.intro r1 (And.intro r0 ?_))
    refine And.intro (fun _ => And.intro (by rw [wa_12]; exact r0) (And.intro r2 ?_)) (fun h => absurd h (by rw [wa_12]; decide))
    refine And.intro (fun _ => And.intro (by rw [wa_15]; exact r1) (And.intro r0 ?_)) (fun h => absurd h (by rw [wa_15]; decide))
    refine And.intro (fun h => absurd wa_16 h) (fun _ => ?_)
    refine Exists.intro N (And.intro ⟨Nat.le_refl _, Nat.le_refl _⟩ (c_openBy (Or.inr rfl) h0 h1 ?_))
    exact hk
  · refine And.intro (fun h => absurd wa_51 h) (fun _ => ?_)
    refine Exists.intro N (And.intro ⟨Nat.le_refl _, Nat.le_refl _⟩ (c_mayOpen (Or.inl rfl) h0 h1 ?_))
    refine And.intro (fun h => absurd h (by decide)) (fun _ => And.intro r1 (And.intro r0 ?_))
    refine And.intro (fun _ => And.intro (by rw [wa_52]; exact r0) (And.intro r2 ?_)) (fun h => absurd h (by rw [wa_52]; decide))
    refine And.intro (fun _ => And.intro (by rw [wa_55]; exact ⟨by decide, by decide⟩) (And.intro r0 ?_)) (fun h => absurd h (by rw [wa_55]; decide))
    refine And.intro (fun _ => And.intro (by rw [wa_56]; exact ⟨by decide, by decide⟩) (And.intro r0 ?_)) (fun h => absurd h (by rw [wa_56]; decide))
    exact hk
theorem pB_b (hpl : ∀ k, 0 ≤ pl k ∧ pl k ≤ 3) (q : Int) : 0 ≤ pB who pl q ∧ pB who pl q ≤ 3 := by
  unfold pB
  split
  · exact hpl _
  · omega
theorem ly_q {J : tF → Int → Prop} {I : Int → tF → Int → Int → Int → Prop} (hmk : 0 ≤ fi 54 39 ∧ fi 54 39 ≤ 40) (hwho : who = 3 ∨ who = 1 ∨ who = 5) (hpl : ∀ k, 0 ≤ pl k ∧ pl k ≤ 3) (hJp : ∀ ai q, J ai q → ai 81 = pl) (hJI : ∀ ai q, 0 ≤ q → q < 96 → J ai q → I q ai 0 0 0)
    (hF : ∀ q ai u l w, 0 ≤ q → q < 96 → 0 ≤ u → u ≤ 20 → 0 ≤ l → l ≤ 20 → I q ai u l w → ∀ a j, 0 ≤ a → a ≤ 3 → 0 ≤ j → j ≤ 3 → -1 ≤ gF (fi 54 37) (fi 54 38) (fi 54 39) (ai 127) u l w a j ∧ gF (fi 54 37) (fi 54 38) (fi 54 39) (ai 127) u l w a j ≤ 1000000)
    (hI : ∀ q ai u l w, 0 ≤ q → q < 96 → 0 ≤ u → u ≤ 20 → 0 ≤ l → l ≤ 20 → 0 ≤ w → w ≤ 3 → I q ai u l w → I q (onS (fi 54 37) (fi 54 38) (fi 54 39) (pB who pl q) (nBw who) q u l w ai) u l (w + 1)) (hI4 : ∀ q ai u l, 0 ≤ u → u ≤ 20 → 0 ≤ l → l ≤ 20 → I q ai u l 4 → I q ai u (l + 1) 0) (hI21 : ∀ q ai u, 0 ≤ u → u ≤ 20 → I q ai u 21 0 → I q ai (u + 1) 0 0)
    (hIJ : ∀ q ai, 0 ≤ q → q < 96 → I q ai 21 0 0 → J (cpN ai 21853) (q - 1)) :
    ∀ (n : Nat) (q sb : Int) (ai : tF) (x3 x4 x5 x6 x7 x8 x9 : Option av), q + 1 = n → q < 96 → J ai q →
    (∀ ai' sb' x3' x4' x5' x6' x7' x8' x9', J ai' (-1) → Rc 1 (Call 1 scL scX (d + 4)) (mt 164) P N scL scX 263 (Lz who (some (.inl (-1))) x3' x4' x5' x6' x7' x8' x9') [] N (up2 fi 54 40 sb') (rF fr) (rA ai') al) →
    Rc 1 (Call 1 scL scX (d + 4)) (mt 164) P N scL scX 25 (Lz who (some (.inl q)) x3 x4 x5 x6 x7 x8 x9) [] N (up2 fi 54 40 sb) (rF fr) (rA ai) al := by
  intro n
  induction n with
  | zero =>
    intro q sb ai x3 x4 x5 x6 x7 x8 x9 hn hq hj hk
    have e : q = -1 := by omega
    subst e
    refine rc_go [263] 12 ?_
    exact And.intro ⟨⟨by decide, by decide⟩, ⟨by decide, by decide⟩⟩ (And.intro (fun _ => hk ai sb _ _ _ _ _ _ _ hj) (fun h => absurd (by decide : (-1 : Int) < 0) h))
  | succ n ih =>
    intro q sb ai x3 x4 x5 x6 x7 x8 x9 hn hq hj hk
    have h0 : 0 ≤ q := by omega
    have bp := pB_b (who := who) hpl q
    refine ly_hd h0 hq hwho (hJp ai q hj) ?_
    have hb : (fbw who = 1 ∧ pB who pl q = 0 ∧ pB who pl q + nBw who - 1 = 3) ∨ (fbw who = 0 ∧ pB who pl q = pB who pl q ∧ pB who pl q + nBw who - 1 = pB who pl q) := by
      rcases hwho with rfl | rfl | rfl
      · exact Or.inl ⟨rfl, rfl, rfl⟩
      · exact Or.inr ⟨rfl, rfl, by show pB 1 pl q + 1 - 1 = _; omega⟩
      · exact Or.inr ⟨rfl, rfl, by show pB 5 pl q + 1 - 1 = _; omega⟩
    have hb3 : pB who pl q + nBw who - 1 ≤ 3 := by
      rcases hb with ⟨-, -, h⟩ | ⟨-, -, h⟩ <;> omega
    have hnn : pB who pl q + nBw who = (pB who pl q + nBw who - 1) + 1 := by omega
    refine sw_u (who := who) (I := I q) (fB := pB who pl q) (tB := pB who pl q + nBw who - 1) (nB := nBw who) h0 hq hmk hb hb3 bp.1 hnn (fun ai u l w => hF q ai u l w h0 hq) (fun ai u l w => hI q ai u l w h0 hq) (fun ai u l => hI4 q ai u l) (fun ai u => hI21 q ai u) 21 0 sb ai x8 x9 (by decide) (by decide) (hJI ai q h0 hq hj) (fun ai' sb' x7' x8' x9' hi' => ?_)
    refine rc_go [229] 10 ?_
    have key : ∀ x7'', Rc 1 (Call 1 scL scX (d + 4)) (mt 164) P N scL scX 257 (Ly who q 1 (fbw who) 0 (pB who pl q) x7'' x8' x9') [] N (up2 fi 54 40 sb') (rF fr) (rA (cpN ai' 21853)) al := by
      intro x7''
      refine rc_go [25] 10 ?_
      exact ih (q - 1) sb' (cpN ai' 21853) (some (.inl 1)) (some (.inl (fbw who))) (some (.inl 0)) (some (.inl (pB who pl q))) x7'' x8' x9' (by omega) (by omega) (hIJ q ai' h0 hq hi') hk
    have := ly_cp (ai := ai') 21853 0 (by decide) key
    rw [cpN_0] at this
    exact this
theorem c_lays {J : tF → Int → Prop} {I : Int → tF → Int → Int → Int → Prop} {ai : tF} (hmk : 0 ≤ fi 54 39 ∧ fi 54 39 ≤ 40) (hwho : who = 3 ∨ who = 1 ∨ who = 5) (hpl : ∀ k, 0 ≤ pl k ∧ pl k ≤ 3) (hJp : ∀ ai q, J ai q → ai 81 = pl) (hJI : ∀ ai q, 0 ≤ q → q < 96 → J ai q → I q ai 0 0 0)
    (hF : ∀ q ai u l w, 0 ≤ q → q < 96 → 0 ≤ u → u ≤ 20 → 0 ≤ l → l ≤ 20 → I q ai u l w → ∀ a j, 0 ≤ a → a ≤ 3 → 0 ≤ j → j ≤ 3 → -1 ≤ gF (fi 54 37) (fi 54 38) (fi 54 39) (ai 127) u l w a j ∧ gF (fi 54 37) (fi 54 38) (fi 54 39) (ai 127) u l w a j ≤ 1000000)
    (hI : ∀ q ai u l w, 0 ≤ q → q < 96 → 0 ≤ u → u ≤ 20 → 0 ≤ l → l ≤ 20 → 0 ≤ w → w ≤ 3 → I q ai u l w → I q (onS (fi 54 37) (fi 54 38) (fi 54 39) (pB who pl q) (nBw who) q u l w ai) u l (w + 1)) (hI4 : ∀ q ai u l, 0 ≤ u → u ≤ 20 → 0 ≤ l → l ≤ 20 → I q ai u l 4 → I q ai u (l + 1) 0) (hI21 : ∀ q ai u, 0 ≤ u → u ≤ 20 → I q ai u 21 0 → I q ai (u + 1) 0 0)
    (hIJ : ∀ q ai, 0 ≤ q → q < 96 → I q ai 21 0 0 → J (cpN ai 21853) (q - 1)) (hJ : J (zN ai 21853) 95)
    (hP : ∀ ai' sb, J ai' (-1) → P (.inl (some (.inl (ai' 127 5460)))) (up2 fi 54 40 sb) (rF fr) (rA ai') al) :
    Call 1 scL scX (d + 5) 164 [.inr (.inl (some 54)), .inl who] N fi (rF fr) (rA ai) al N P := by
  refine ⟨⟨Nat.le_refl _, rfl⟩, rc_go [2] 10 ?_⟩
  have key : ∀ x2', Rc 1 (Call 1 scL scX (d + 4)) (mt 164) P N scL scX 22 (Lz who x2' none none none none none none none) [] N fi (rF fr) (rA (zN ai 21853)) al := by
    intro x2'
    refine rc_go [25] 10 ?_
    have := ly_q (d := d) (scL := scL) (scX := scX) (N := N) (P := P) (fr := fr) (al := al) (fi := fi) (J := J) (I := I) hmk hwho hpl hJp hJI hF hI hI4 hI21 hIJ 96 95 (fi 54 40) (zN ai 21853) none none none none none none none (by decide) (by decide) hJ (fun ai' sb' x3' x4' x5' x6' x7' x8' x9' hj' => by
      refine rc_go [] 30 ?_
      refine And.intro ⟨by decide, by decide⟩ ?_
      refine And.intro ⟨by decide, by decide⟩ ?_
      refine Exists.intro N (And.intro ⟨Nat.le_refl _, Nat.le_refl _⟩ (c_state ?_))
      refine And.intro (show inb 5460 21853 from ⟨by decide, by decide⟩) ?_
      exact And.intro rfl (hP ai' sb' hj'))
    rw [up2_id] at this
    exact this
  have := ly_z (ai := ai) 21853 0 (by decide) key
  rw [zN_0] at this
  exact this
end Lays3
