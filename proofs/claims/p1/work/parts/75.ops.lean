/-! the reference's replies and take; best, take, reply -/
def cpQ (A : tF) (dst src n : Nat) : tF := fun i j => if i = dst ∧ j < n then A src j else A i j
theorem cpQ_0 (A : tF) (dst src : Nat) : cpQ A dst src 0 = A := by
  funext i j
  unfold cpQ
  rw [if_neg (by omega)]
theorem cpQ_row {A : tF} {dst src n o : Nat} (h : o ≠ dst) : cpQ A dst src n o = A o := by
  funext j
  unfold cpQ
  rw [if_neg (fun z => h z.1)]
theorem rA_ne {A : tF} {o : Nat} (h1 : o ≠ 58) (h2 : o ≠ 60) : rA A o = A o := by
  funext k
  unfold rA
  have e1 : Nat.beq o 58 = false := by
    cases e : Nat.beq o 58
    · rfl
    · exact absurd (Nat.eq_of_beq_eq_true e) h1
  have e2 : Nat.beq o 60 = false := by
    cases e : Nat.beq o 60
    · rfl
    · exact absurd (Nat.eq_of_beq_eq_true e) h2
  rw [e1, e2]; rfl
theorem cpQ_up {A : tF} {dst src k : Nat} (hd : src ≠ dst) (d1 : dst ≠ 58) (d2 : dst ≠ 60) (s1 : src ≠ 58) (s2 : src ≠ 60) : up2 (rA (cpQ A dst src k)) dst k (rA (cpQ A dst src k) src k) = rA (cpQ A dst src (k + 1)) := by
  rw [rA_ne s1 s2, rA_up d1 d2, cpQ_row hd]
  congr 1
  funext i j
  rw [up2_if]
  unfold cpQ
  by_cases h : i = dst ∧ j = k
  · rw [if_pos h, if_pos ⟨h.1, by omega⟩, h.2]
  · rw [if_neg h]
    by_cases h2 : i = dst ∧ j < k
    · rw [if_pos h2, if_pos ⟨h2.1, by omega⟩]
    · rw [if_neg h2, if_neg (by omega)]
section Rep
variable {scL : Nat} {scX : Nat → Int} {d N : Nat} {fi : tF} {fr : tR} {ai : tF} {al : tL} {P : ot}
theorem rp_0 {A : tF} (hP : P (.inl none) fi (rF fr) (rA (cpQ A 80 123 96)) al) : ∀ (n k : Nat), k + n = 96 → Rc 1 (Call 1 scL scX d) (mt 177) P N scL scX 17 [some (.inr (.inl (some 54))), some (.inl 0), some (.inl (k : Int))] [] N fi (rF fr) (rA (cpQ A 80 123 k)) al := by
  intro n
  induction n with
  | zero =>
    intro k hn
    have e : k = 96 := by omega
    subst e
    refine rc_go [] 10 ?_
    exact And.intro ⟨⟨by decide, by decide⟩, ⟨by decide, by decide⟩⟩ (And.intro (fun _ => And.intro rfl hP) (fun h => absurd (by decide : (96 : Int) ≤ 96) h))
  | succ n ih =>
    intro k hn
    have key := ih (k + 1) (by omega)
    rw [← cpQ_up (by decide) (by decide) (by decide) (by decide) (by decide)] at key
    have i9 : inb (k : Int) 96 := ⟨by omega, by show (k : Int) < 96; omega⟩
    refine rc_go [17] 30 ?_
    refine And.intro ⟨rg_sm (by omega) (by omega), ⟨by decide, by decide⟩⟩ (And.intro (fun h => absurd (show (96 : Int) ≤ (k : Int) from h) (by omega)) (fun _ => ?_))
    refine And.intro ⟨by decide, by decide⟩ (And.intro ⟨by decide, by decide⟩ (And.intro i9 (And.intro i9 ?_)))
    exact key
theorem tk_0 {A : tF} {V : Int} (hk : ∀ x3, Rc 1 (Call 1 scL scX d) (mt 173) P N scL scX 51 [some (.inr (.inl (some 54))), some (.inl V), some (.inl 0), x3] [] N fi (rF fr) (rA (cpQ A 80 123 96)) al) : ∀ (n k : Nat), k + n = 96 → Rc 1 (Call 1 scL scX d) (mt 173) P N scL scX 23 [some (.inr (.inl (some 54))), some (.inl V), some (.inl 0), some (.inl (k : Int))] [] N fi (rF fr) (rA (cpQ A 80 123 k)) al := by
  intro n
  induction n with
  | zero =>
    intro k hn
    have e : k = 96 := by omega
    subst e
    refine rc_go [51] 10 ?_
    exact And.intro ⟨⟨by decide, by decide⟩, ⟨by decide, by decide⟩⟩ (And.intro (fun _ => hk _) (fun h => absurd (by decide : (96 : Int) ≤ 96) h))
  | succ n ih =>
    intro k hn
    have key := ih (k + 1) (by omega)
    rw [← cpQ_up (by decide) (by decide) (by decide) (by decide) (by decide)] at key
    have i9 : inb (k : Int) 96 := ⟨by omega, by show (k : Int) < 96; omega⟩
    refine rc_go [23] 30 ?_
    refine And.intro ⟨rg_sm (by omega) (by omega), ⟨by decide, by decide⟩⟩ (And.intro (fun h => absurd (show (96 : Int) ≤ (k : Int) from h) (by omega)) (fun _ => ?_))
    refine And.intro ⟨by decide, by decide⟩ (And.intro ⟨by decide, by decide⟩ (And.intro i9 (And.intro i9 ?_)))
    exact key
theorem rp_1 {A : tF} (hP : P (.inl none) fi (rF fr) (rA (cpQ A 81 124 96)) al) : ∀ (n k : Nat), k + n = 96 → Rc 1 (Call 1 scL scX d) (mt 177) P N scL scX 17 [some (.inr (.inl (some 54))), some (.inl 1), some (.inl (k : Int))] [] N fi (rF fr) (rA (cpQ A 81 124 k)) al := by
  intro n
  induction n with
  | zero =>
    intro k hn
    have e : k = 96 := by omega
    subst e
    refine rc_go [] 10 ?_
    exact And.intro ⟨⟨by decide, by decide⟩, ⟨by decide, by decide⟩⟩ (And.intro (fun _ => And.intro rfl hP) (fun h => absurd (by decide : (96 : Int) ≤ 96) h))
  | succ n ih =>
    intro k hn
    have key := ih (k + 1) (by omega)
    rw [← cpQ_up (by decide) (by decide) (by decide) (by decide) (by decide)] at key
    have i9 : inb (k : Int) 96 := ⟨by omega, by show (k : Int) < 96; omega⟩
    refine rc_go [17] 30 ?_
    refine And.intro ⟨rg_sm (by omega) (by omega), ⟨by decide, by decide⟩⟩ (And.intro (fun h => absurd (show (96 : Int) ≤ (k : Int) from h) (by omega)) (fun _ => ?_))
    refine And.intro ⟨by decide, by decide⟩ (And.intro ⟨by decide, by decide⟩ (And.intro i9 (And.intro i9 ?_)))
    exact key
theorem tk_1 {A : tF} {V : Int} (hk : ∀ x3, Rc 1 (Call 1 scL scX d) (mt 173) P N scL scX 51 [some (.inr (.inl (some 54))), some (.inl V), some (.inl 1), x3] [] N fi (rF fr) (rA (cpQ A 81 124 96)) al) : ∀ (n k : Nat), k + n = 96 → Rc 1 (Call 1 scL scX d) (mt 173) P N scL scX 23 [some (.inr (.inl (some 54))), some (.inl V), some (.inl 1), some (.inl (k : Int))] [] N fi (rF fr) (rA (cpQ A 81 124 k)) al := by
  intro n
  induction n with
  | zero =>
    intro k hn
    have e : k = 96 := by omega
    subst e
    refine rc_go [51] 10 ?_
    exact And.intro ⟨⟨by decide, by decide⟩, ⟨by decide, by decide⟩⟩ (And.intro (fun _ => hk _) (fun h => absurd (by decide : (96 : Int) ≤ 96) h))
  | succ n ih =>
    intro k hn
    have key := ih (k + 1) (by omega)
    rw [← cpQ_up (by decide) (by decide) (by decide) (by decide) (by decide)] at key
    have i9 : inb (k : Int) 96 := ⟨by omega, by show (k : Int) < 96; omega⟩
    refine rc_go [23] 30 ?_
    refine And.intro ⟨rg_sm (by omega) (by omega), ⟨by decide, by decide⟩⟩ (And.intro (fun h => absurd (show (96 : Int) ≤ (k : Int) from h) (by omega)) (fun _ => ?_))
    refine And.intro ⟨by decide, by decide⟩ (And.intro ⟨by decide, by decide⟩ (And.intro i9 (And.intro i9 ?_)))
    exact key
/-- what followsBest needs, out of what lays leaves -/
theorem chK_w {a b mk who : Int} {pl : Nat → Int} (hwho : who = 3 ∨ who = 1 ∨ who = 5) (hpl : ∀ k, 0 ≤ pl k ∧ pl k ≤ 3) (h : chK a b mk who pl ai (-1)) : (∀ q : Nat, q < 96 → 0 ≤ rPk (rK a b mk (pB who pl) (nBw who)) q ∧ rPk (rK a b mk (pB who pl) (nBw who)) q ≤ 15) ∧ ∀ q : Nat, q < 96 → rdB (ai 128 ((cx q (rSt (rK a b mk (pB who pl) (nBw who)) q).1 (rSt (rK a b mk (pB who pl) (nBw who)) q).2.1 (rSt (rK a b mk (pB who pl) (nBw who)) q).2.2).tdiv 8).toNat) (cx q (rSt (rK a b mk (pB who pl) (nBw who)) q).1 (rSt (rK a b mk (pB who pl) (nBw who)) q).2.1 (rSt (rK a b mk (pB who pl) (nBw who)) q).2.2) = rPk (rK a b mk (pB who pl) (nBw who)) q := by
  have h1 : ∀ q : Nat, q < 96 → 0 ≤ rPk (rK a b mk (pB who pl) (nBw who)) q ∧ rPk (rK a b mk (pB who pl) (nBw who)) q ≤ 15 := fun q _ => rK_b (fq_b hwho hpl)
  refine ⟨h1, fun q hq => ?_⟩
  have bs := rSt_b h1 q (by omega)
  rw [h q _ _ _ (by omega) (by omega) (by omega) bs.1 bs.2.1 bs.2.2, show (95 - (q : Int)).toNat = 95 - q by omega]
  rfl
/-- what replies leaves: the plan of that mill is along its walk -/
def rsO (m : Int) (p : Nat → Int) (pl : Nat → Int) (fi ai fi' ai' : tF) : Prop := (∀ o, o ≠ 54 → fi' o = fi o) ∧ (∀ k, k < 40 → fi' 54 k = fi 54 k) ∧ (∀ o, o ≠ 80 → o ≠ 81 → o ≠ 123 → o ≠ 124 → ai' o = ai o) ∧ (m = 0 → ai' 81 = ai 81 ∧ ∀ k, k < 96 → ai' 80 k = rPk (rK 1 0 40 (pB 1 pl) (nBw 1)) k / 4) ∧ (m = 1 → ai' 80 = ai 80 ∧ (∀ k, 96 ≤ k → ai' 81 k = ai 81 k) ∧ ∀ k, k < 96 → ai' 81 k = LK (uT p) (95 - k) (lS (uT p) k))
theorem c_replies {m : Int} {p pl : Nat → Int} {f a : tF} (hm : m = 0 ∨ m = 1) (hp : ∀ k, 0 ≤ p k ∧ p k ≤ 3) (hpl : ∀ k, 0 ≤ pl k ∧ pl k ≤ 3) (ha : a 81 = pl) (h : rqO m p f a fi ai) (hP : ∀ fi' ai', rsO m p pl fi ai fi' ai' → P (.inl none) fi' (rF fr) (rA ai') al) :
    Call 1 scL scX (d + 5) 177 [.inr (.inl (some 54)), .inl m] N fi (rF fr) (rA ai) al N P := by
  rcases hm with rfl | rfl
  · obtain ⟨h39, hc⟩ := h.2.1 rfl
    rw [ha] at hc
    obtain ⟨w1, w2⟩ := chK_w (Or.inr (Or.inl rfl)) hpl hc
    refine ⟨⟨Nat.le_refl _, rfl⟩, rc_go [17] 20 ?_⟩
    refine And.intro (fun h => absurd rfl h) (fun _ => ?_)
    refine Exists.intro N (And.intro ⟨Nat.le_refl _, Nat.le_refl _⟩ (c_followsBest (by rw [h39]; decide) w1 w2 (fun A sb hA => ?_)))
    have key := rp_0 (scL := scL) (scX := scX) (d := d + 4) (N := N) (A := A) (P := P) (fi := up2 fi 54 40 sb) (fr := fr) (al := al) (hP _ _ ⟨fun o ho => up2_row ho, fun k hk => by rw [up2_if, if_neg (by omega)], fun o h1 h2 h3 h4 => by rw [cpQ_row h1]; exact hA.1 o h3 h4, fun _ => ⟨by rw [cpQ_row (by decide)]; exact hA.1 81 (by decide) (by decide), fun k hk => by
      unfold cpQ
      rw [if_pos ⟨rfl, hk⟩]
      exact (hA.2 k hk).1⟩, fun h => absurd h (by decide)⟩) 96 0 (by decide)
    rw [cpQ_0] at key
    exact key
  · have hL := h.2.2 rfl
    refine ⟨⟨Nat.le_refl _, rfl⟩, rc_go [17] 20 ?_⟩
    refine And.intro (fun _ => And.intro ⟨by decide, by decide⟩ (And.intro ⟨by decide, by decide⟩ ?_)) (fun h => absurd h (by decide))
    refine Exists.intro N (And.intro ⟨Nat.le_refl _, Nat.le_refl _⟩ (c_followsLower (d := d + 2) (uT_b hp) hL.2.1 hL.2.2 (fun A hA => ?_)))
    have key := rp_1 (scL := scL) (scX := scX) (d := d + 4) (N := N) (A := A) (P := P) (fi := fi) (fr := fr) (al := al) (hP _ _ ⟨fun _ _ => rfl, fun _ _ => rfl, fun o h1 h2 h3 h4 => by rw [cpQ_row h2]; exact hA.1 o h4, fun h => absurd h (by decide), fun _ => ⟨by rw [cpQ_row (by decide)]; exact hA.1 80 (by decide), fun k hk => by
      unfold cpQ
      rw [if_neg (by omega), hA.1 81 (by decide)], fun k hk => by
      unfold cpQ
      rw [if_pos ⟨rfl, hk⟩]
      exact hA.2 k hk⟩⟩) 96 0 (by decide)
    rw [cpQ_0] at key
    exact key
theorem c_mreply {m V : Int} {p : Nat → Int} (hm : m = 0 ∨ m = 1) (hp : ∀ k, 0 ≤ p k ∧ p k ≤ 3) (h80 : ∀ k, k < 96 → ai 80 k = p k) (h81 : ∀ k, k < 96 → ai 81 k = p (96 + k)) (hpl : ∀ k, 0 ≤ ai 81 k ∧ ai 81 k ≤ 3) (hV : vOne m 40 p = V) (hP : ∀ fi' ai', fi' 54 0 = 0 → P (.inl (some (.inl V))) fi' (rF fr) (rA ai') al) :
    Call 1 scL scX (d + 8) 178 [.inr (.inl (some 54)), .inl m] N fi (rF fr) (rA ai) al N P := by
  refine ⟨⟨Nat.le_refl _, rfl⟩, rc_go [] 40 ?_⟩
  refine Exists.intro N (And.intro ⟨Nat.le_refl _, Nat.le_refl _⟩ (c_isMill hm ?_))
  refine And.intro (fun _ => And.intro ⟨by decide, by decide⟩ (And.intro ⟨by decide, by decide⟩ ?_)) (fun h => absurd h (by decide))
  refine Exists.intro N (And.intro ⟨Nat.le_refl _, Nat.le_refl _⟩ (c_bad0 rfl ?_))
  refine And.intro (fun _ => ?_) (fun h => absurd rfl h)
  refine Exists.intro N (And.intro ⟨Nat.le_refl _, Nat.le_refl _⟩ (c_replyOf hm hp h80 h81 hpl hV (fun fi1 ai1 hr => ?_)))
  refine Exists.intro N (And.intro ⟨Nat.le_refl _, Nat.le_refl _⟩ (c_replies (d := d + 2) hm hp hpl rfl hr (fun fi2 ai2 hr2 => ?_)))
  exact And.intro rfl (hP fi2 ai2 ((hr2.2.1 0 (by decide)).trans (hr.1.2.1 0 (by decide))))
theorem c_mtake {V : Int} (hV : ∀ pl, rV 1 1 40 (pB 3 pl) (nBw 3) 96 10 10 0 = V) (hpl : ∀ k, 0 ≤ ai 81 k ∧ ai 81 k ≤ 3) (hP : ∀ fi' ai', P (.inl (some (.inl V))) fi' (rF fr) (rA ai') al) :
    Call 1 scL scX (d + 8) 173 [.inr (.inl (some 54))] N fi (rF fr) (rA ai) al N P := by
  refine ⟨⟨Nat.le_refl _, rfl⟩, rc_go [23] 30 ?_⟩
  refine Exists.intro N (And.intro ⟨Nat.le_refl _, Nat.le_refl _⟩ (c_togNow (pl := ai 81) (hV _) hpl rfl (fun ai1 sb h1 h2 => ?_)))
  obtain ⟨w1, w2⟩ := chK_w (Or.inl rfl) hpl h2
  refine Exists.intro N (And.intro ⟨Nat.le_refl _, Nat.le_refl _⟩ (c_followsBest (d := d + 3) (show (0 : Int) ≤ 40 ∧ (40 : Int) ≤ 40 from ⟨by decide, by decide⟩) w1 w2 (fun A sb2 hA => ?_)))
  refine And.intro ⟨⟨by decide, by decide⟩, ⟨by decide, by decide⟩⟩ (And.intro (fun h => absurd (show (2 : Int) ≤ 0 from h) (by decide)) (fun _ => ?_))
  have key := tk_0 (scL := scL) (scX := scX) (d := d + 7) (N := N) (A := A) (P := P) (fr := fr) (al := al) (V := V) (fi := up2 (up2 (up2 (up2 (up2 (up2 fi 54 0 0) 54 37 1) 54 38 1) 54 39 40) 54 40 sb) 54 40 sb2) (fun x3 => by
    refine rc_go [23] 20 ?_
    refine And.intro ⟨⟨by decide, by decide⟩, ⟨by decide, by decide⟩⟩ (And.intro (fun h => absurd (show (2 : Int) ≤ 1 from h) (by decide)) (fun _ => ?_))
    have key2 := tk_1 (scL := scL) (scX := scX) (d := d + 7) (N := N) (A := cpQ A 80 123 96) (P := P) (fr := fr) (al := al) (V := V) (fi := up2 (up2 (up2 (up2 (up2 (up2 fi 54 0 0) 54 37 1) 54 38 1) 54 39 40) 54 40 sb) 54 40 sb2) (fun x3 => by
      refine rc_go [] 20 ?_
      refine And.intro ⟨⟨by decide, by decide⟩, ⟨by decide, by decide⟩⟩ (And.intro (fun _ => ?_) (fun h => absurd (by decide : (2 : Int) ≤ 2) h))
      exact And.intro rfl (hP _ _)) 96 0 (by decide)
    rw [cpQ_0] at key2
    exact key2) 96 0 (by decide)
  rw [cpQ_0] at key
  exact key
theorem c_mbest {m q v : Int} (hm : m = 0 ∨ m = 1) (hq : 0 ≤ q ∧ q < 96) (hpl : ∀ k, 0 ≤ ai 81 k ∧ ai 81 k ≤ 3) (hv : (if m = 0 then rPk (rK 1 1 40 (pB 3 (ai 81)) (nBw 3)) q.toNat / 4 else rPk (rK 1 1 40 (pB 3 (ai 81)) (nBw 3)) q.toNat % 4) = v) (hP : ∀ fi' ai', fi' 54 0 = 0 → P (.inl (some (.inl v))) fi' (rF fr) (rA ai') al) :
    Call 1 scL scX (d + 8) 172 [.inr (.inl (some 54)), .inl m, .inl q] N fi (rF fr) (rA ai) al N P := by
  obtain ⟨V, hV⟩ : ∃ V, rV 1 1 40 (pB 3 (ai 81)) (nBw 3) 96 10 10 0 = V := ⟨_, rfl⟩
  refine ⟨⟨Nat.le_refl _, rfl⟩, rc_go [] 60 ?_⟩
  refine Exists.intro N (And.intro ⟨Nat.le_refl _, Nat.le_refl _⟩ (c_isMill hm ?_))
  refine And.intro (fun h => absurd h (by decide)) (fun _ => And.intro ⟨by decide, by decide⟩ (And.intro ⟨by decide, by decide⟩ ?_))
  refine Exists.intro N (And.intro ⟨Nat.le_refl _, Nat.le_refl _⟩ (c_isQuarter hq ?_))
  refine And.intro (fun _ => And.intro ⟨by decide, by decide⟩ (And.intro ⟨by decide, by decide⟩ ?_)) (fun h => absurd h (by decide))
  refine Exists.intro N (And.intro ⟨Nat.le_refl _, Nat.le_refl _⟩ (c_bad0 rfl ?_))
  refine And.intro (fun _ => ?_) (fun h => absurd rfl h)
  refine Exists.intro N (And.intro ⟨Nat.le_refl _, Nat.le_refl _⟩ (c_togNow (pl := ai 81) hV hpl rfl (fun ai1 sb h1 h2 => ?_)))
  obtain ⟨w1, w2⟩ := chK_w (Or.inl rfl) hpl h2
  refine Exists.intro N (And.intro ⟨Nat.le_refl _, Nat.le_refl _⟩ (c_followsBest (d := d + 3) (show (0 : Int) ≤ 40 ∧ (40 : Int) ≤ 40 from ⟨by decide, by decide⟩) w1 w2 (fun A sb2 hA => ?_)))
  have hA2 := hA.2 q.toNat (by omega)
  rcases hm with rfl | rfl
  · rw [if_pos rfl, ← hA2.1] at hv
    subst hv
    refine And.intro ⟨by decide, by decide⟩ (And.intro ⟨hq.1, by show q < 96; omega⟩ ?_)
    exact And.intro rfl (hP _ _ rfl)
  · rw [if_neg (by decide), ← hA2.2] at hv
    subst hv
    refine And.intro ⟨by decide, by decide⟩ (And.intro ⟨hq.1, by show q < 96; omega⟩ ?_)
    exact And.intro rfl (hP _ _ rfl)
end Rep
theorem g_18 {scX : Nat → Int} (hI : ∀ j, -2147483648 ≤ scX j ∧ scX j ≤ 2147483647) (hop : b32 (fun p q => p &&& q) (scX 0) 63 = 18) : Good scX := by
  by_cases c : 0 ≤ scX 1 ∧ scX 1 ≤ 1
  · have hm : scX 1 = 0 ∨ scX 1 = 1 := by omega
    obtain ⟨V, hV⟩ : ∃ V, vOne (scX 1) 40 (fun _ => 0) = V := ⟨_, rfl⟩
    refine ga_18 hop ?_
    rw [← cA_h0]
    refine ⟨⟨by decide, rfl⟩, rc_go [] 20 ?_⟩
    refine Exists.intro 233 (And.intro ⟨by decide, by decide⟩ (c_needMill (d := 28) hm ?_))
    refine Exists.intro 244 (And.intro ⟨by decide, by decide⟩ ?_)
    refine ⟨⟨by decide, rfl⟩, rc_go [] 20 ?_⟩
    refine Exists.intro 244 (And.intro ⟨by decide, by decide⟩ (c_mbr0 (d := 24) hm (plO_h rfl) rfl ⟨by decide, by decide⟩ hV (fun nr fa fi' ai' al' hn hr => ?_)))
    refine Exists.intro 244 (And.intro ⟨by decide, by decide⟩ (c_takeReply (d := 25) hm ⟨by decide, by decide⟩ hr (fun fi2 ai2 ht => ?_)))
    refine And.intro rfl (And.intro rfl ⟨V, rfl, ?_⟩)
    obtain ⟨-, -, -, h2, -, -, -, -, -, -⟩ := hr
    have e : ∀ o, o < 234 → o ≠ 29 → ai2 o = h0A o := fun o h1 h3 => (ht.2.1 o h1 h3).trans (h2 o h1)
    rw [← rF_c, ← rA_h0 (e 58 (by decide) (by decide)) (e 60 (by decide) (by decide))]
    exact c_mreply (d := 23) (p := fun _ => 0) hm p0_b (fun k _ => congrFun (e 80 (by decide) (by decide)) k) (fun k _ => congrFun (e 81 (by decide) (by decide)) k) (r81_b (e 81 (by decide) (by decide))) hV (fun fi2 ai2 ht => ⟨rfl, ht, rfl⟩)
  · exact g_18_no hI hop c
theorem g_16 {scX : Nat → Int} (hop : b32 (fun p q => p &&& q) (scX 0) 63 = 16) : Good scX := by
  obtain ⟨K, hK⟩ : ∃ K, cK 1 1 40 f0 f0 4 4 = K := ⟨_, rfl⟩
  obtain ⟨V, hV⟩ : ∃ V, cW 1 1 40 f0 f0 4 4 96 12 10 = V := ⟨_, rfl⟩
  obtain ⟨SU, hSU⟩ : ∃ V, cSU K 40 96 = V := ⟨_, rfl⟩
  obtain ⟨SL, hSL⟩ : ∃ V, cSL K 96 = V := ⟨_, rfl⟩
  have hR : ∀ pl, rV 1 1 40 (pB 3 pl) (nBw 3) 96 10 10 0 = V := fun pl => val_3.symm.trans hV
  refine gb_16 hop ?_
  rw [← cA_h0]
  refine ⟨⟨by decide, rfl⟩, rc_go [] 30 ?_⟩
  refine Exists.intro 244 (And.intro ⟨by decide, by decide⟩ (c_findTog (d := 26) rfl rfl ⟨by decide, by decide⟩ hK hV hSU hSL (fun nr fa fi1 ai1 al1 hn hf => ?_)))
  obtain ⟨⟨-, q2, -, -, -⟩, q3, -, q5, q6, q7, -⟩ := hf
  refine And.intro ⟨by decide, by decide, by decide, by decide, by decide⟩ (And.intro rfl ⟨V, ?_, ?_⟩)
  · rw [← q2]; rfl
  · have e : ∀ o, o ≠ 29 → cpR (cA ai1) 50 (0 : Int).toNat 29 (0 : Int).toNat (192 : Int).toNat o = cA ai1 o := fun o ho => by
      funext j
      rw [cpR_if, if_neg (fun z => ho z.1)]
    have e58 : ∀ k, cpR (cA ai1) 50 (0 : Int).toNat 29 (0 : Int).toNat (192 : Int).toNat 58 k = tvf k := fun k => by
      rw [e 58 (by decide)]
      exact congrFun (q5 58 (by decide) (by decide)) k
    have e60 : ∀ k, cpR (cA ai1) 50 (0 : Int).toNat 29 (0 : Int).toNat (192 : Int).toNat 60 k = 2 := fun k => by
      rw [e 60 (by decide)]
      exact congrFun (q5 60 (by decide) (by decide)) k
    rw [← rF_c, ← rA_id e58 e60]
    refine c_mtake (d := 23) hR (fun k => ?_) (fun fi2 ai2 => rfl)
    rw [e 81 (by decide)]
    exact r81_b (q5 81 (by decide) (by decide)) k
theorem g_15 {scX : Nat → Int} (hI : ∀ j, -2147483648 ≤ scX j ∧ scX j ≤ 2147483647) (hop : b32 (fun p q => p &&& q) (scX 0) 63 = 15) : Good scX := by
  by_cases c : (0 ≤ scX 1 ∧ scX 1 ≤ 1) ∧ (0 ≤ scX 2 ∧ scX 2 ≤ 95)
  · have hm : scX 1 = 0 ∨ scX 1 = 1 := by omega
    have hq : 0 ≤ scX 2 ∧ scX 2 < 96 := by omega
    obtain ⟨K, hK⟩ : ∃ K, cK 1 1 40 f0 f0 4 4 = K := ⟨_, rfl⟩
    obtain ⟨V, hV⟩ : ∃ V, cW 1 1 40 f0 f0 4 4 96 12 10 = V := ⟨_, rfl⟩
    obtain ⟨SU, hSU⟩ : ∃ V, cSU K 40 96 = V := ⟨_, rfl⟩
    obtain ⟨SL, hSL⟩ : ∃ V, cSL K 96 = V := ⟨_, rfl⟩
    have hw : ∀ pl, rPk (rK 1 1 40 (pB 3 pl) (nBw 3)) (scX 2).toNat = cPk K (scX 2).toNat := fun pl => by
      rw [← hK]
      exact (walk_eq (wA := 1) (wB := 1) (mk := 40) (fq := f0) (nB := 4) (fun q => ⟨Int.le_refl 0, Int.le_refl 4⟩) (scX 2).toNat (by omega)).2.2
    refine ga_15 hop ?_
    rw [← cA_h0]
    refine ⟨⟨by decide, rfl⟩, rc_go [] 30 ?_⟩
    refine Exists.intro 233 (And.intro ⟨by decide, by decide⟩ (c_needMill (d := 28) hm ?_))
    refine Exists.intro 233 (And.intro ⟨by decide, by decide⟩ (c_needQ (d := 28) hq ?_))
    refine Exists.intro 244 (And.intro ⟨by decide, by decide⟩ (c_findTog (d := 25) rfl rfl ⟨by decide, by decide⟩ hK hV hSU hSL (fun nr fa fi1 ai1 al1 hn hf => ?_)))
    obtain ⟨-, -, q4, q5, -, -, -⟩ := hf
    refine And.intro ⟨by omega, by show scX 1 * 96 + scX 2 < 192; omega⟩ (And.intro rfl ⟨ai1 50 (scX 1 * 96 + scX 2).toNat, rfl, ?_⟩)
    rw [← rF_c, ← rA_h0 (q5 58 (by decide) (by decide)) (q5 60 (by decide) (by decide))]
    have q4 := q4 (scX 2).toNat (by omega)
    refine c_mbest (d := 23) hm hq (r81_b (q5 81 (by decide) (by decide))) ?_ (fun fi2 ai2 ht => ⟨rfl, ht, rfl⟩)
    rcases hm with h | h
    · rw [if_pos h, hw, show (scX 1 * 96 + scX 2).toNat = (scX 2).toNat by omega]
      exact q4.1.symm
    · rw [if_neg (by omega), hw, show (scX 1 * 96 + scX 2).toNat = 96 + (scX 2).toNat by omega]
      exact q4.2.symm
  · exact g_15_no hI hop c
