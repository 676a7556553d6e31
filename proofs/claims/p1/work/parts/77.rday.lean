/-! the reference's days (by gen77.py) -/
def dU (s : Int × Int × Int) (A B : Nat → Int) : Nat → Int × Int × Int
  | 0 => s
  | q + 1 => (gX (dU s A B q).1 - gM (A q) (gX (dU s A B q).1), gY (dU s A B q).2.1 (dU s A B q).2.2 - gM (B q) (gY (dU s A B q).2.1 (dU s A B q).2.2), gM (A q) (gX (dU s A B q).1))
/-- what each grinds in a quarter, and so far -/
def dA (s : Int × Int × Int) (A B : Nat → Int) (q : Nat) : Int := if gX (dU s A B q).1 < 5 then 0 else gM (A q) (gX (dU s A B q).1)
def dB (s : Int × Int × Int) (A B : Nat → Int) (q : Nat) : Int := if gY (dU s A B q).2.1 (dU s A B q).2.2 < 5 then 0 else gM (B q) (gY (dU s A B q).2.1 (dU s A B q).2.2)
def sA (s : Int × Int × Int) (A B : Nat → Int) : Nat → Int
  | 0 => 0
  | q + 1 => sA s A B q + dA s A B q
def sB (s : Int × Int × Int) (A B : Nat → Int) : Nat → Int
  | 0 => 0
  | q + 1 => sB s A B q + dB s A B q
def okW3 (s : Int × Int × Int) : Prop := (0 ≤ s.1 ∧ s.1 ≤ 20) ∧ (0 ≤ s.2.1 ∧ s.2.1 ≤ 20) ∧ (0 ≤ s.2.2 ∧ s.2.2 ≤ 3)
def ab3 (A : Nat → Int) : Prop := ∀ k, k < 96 → 0 ≤ A k ∧ A k ≤ 3
theorem dU_b {s : Int × Int × Int} {A B : Nat → Int} (hs : okW3 s) (hA : ab3 A) (hB : ab3 B) : ∀ q, q ≤ 96 → okW3 (dU s A B q)
  | 0, _ => hs
  | q + 1, h => by
    have ih := dU_b hs hA hB q (by omega)
    have bA := hA q (by omega)
    have bB := hB q (by omega)
    unfold okW3 at ih ⊢
    show (0 ≤ gX (dU s A B q).1 - gM (A q) (gX (dU s A B q).1) ∧ gX (dU s A B q).1 - gM (A q) (gX (dU s A B q).1) ≤ 20) ∧ (0 ≤ gY (dU s A B q).2.1 (dU s A B q).2.2 - gM (B q) (gY (dU s A B q).2.1 (dU s A B q).2.2) ∧ gY (dU s A B q).2.1 (dU s A B q).2.2 - gM (B q) (gY (dU s A B q).2.1 (dU s A B q).2.2) ≤ 20) ∧ (0 ≤ gM (A q) (gX (dU s A B q).1) ∧ gM (A q) (gX (dU s A B q).1) ≤ 3)
    rw [gM_mn, gM_mn, gX_mn, gY_mn]
    omega
def rD (s : Int × Int × Int) (g h : Int) (fi ai : tF) : Prop := ai 112 0 = s.1 ∧ ai 112 1 = s.2.1 ∧ fi 54 30 = s.2.2 ∧ ai 114 0 = g ∧ ai 115 0 = h
def dfr (fi ai fi' ai' : tF) : Prop := (∀ o, o < 112 ∨ (121 < o ∧ o ≠ 125) → ai' o = ai o) ∧ (∀ o, o ≠ 54 → fi' o = fi o) ∧ (∀ k, k ≠ 30 → k ≠ 31 → fi' 54 k = fi 54 k)
theorem dfr_tr {a b a' b' a'' b'' : tF} (h : dfr a b a' b') (h2 : dfr a' b' a'' b'') : dfr a b a'' b'' :=
  ⟨fun o ho => (h2.1 o ho).trans (h.1 o ho), fun o ho => (h2.2.1 o ho).trans (h.2.1 o ho), fun k h1 h3 => (h2.2.2 k h1 h3).trans (h.2.2 k h1 h3)⟩
theorem dfr_0 (a b : tF) : dfr a b a b := ⟨fun _ _ => rfl, fun _ _ => rfl, fun _ _ _ => rfl⟩
section RDay2
variable {scL : Nat} {scX : Nat → Int} {d N : Nat} {fi : tF} {fr : tR} {ai : tF} {al : tL} {P : ot}
/-- one quarter, along a day -/
theorem c_quarterD {s : Int × Int × Int} {A B : Nat → Int} {q : Nat} {g h : Int} {a b : Int} (hs : okW3 s) (hA : ab3 A) (hB : ab3 B) (hq : q < 96) (ea : a = A q) (eb : b = B q) (hD : rD (dU s A B q) (g + sA s A B q) (h + sB s A B q) fi ai) (h36 : fi 54 36 = -1)
    (hP : ∀ fi' ai', rD (dU s A B (q + 1)) (g + sA s A B (q + 1)) (h + sB s A B (q + 1)) fi' ai' → dfr fi ai fi' ai' → P (.inl none) fi' (rF fr) (rA ai') al) :
    Call 1 scL scX (d + 3) 155 [.inr (.inl (some 54)), .inl (q : Int), .inl a, .inl b] N fi (rF fr) (rA ai) al N P := by
  subst ea
  subst eb
  obtain ⟨e1, e2, e3, e4, e5⟩ := hD
  have bs := dU_b hs hA hB q (by omega)
  unfold okW3 at bs
  refine c_quarter ⟨by omega, by omega⟩ (by rw [e1]; exact bs.1) (by rw [e2]; exact bs.2.1) (by rw [e3]; exact bs.2.2) (hA q hq) (hB q hq) h36 (fun fi' ai' hr => ?_)
  obtain ⟨r1, r2, r3, r4, r5, r6, r7, r8⟩ := hr
  rw [e1] at r1 r3 r4
  rw [e2, e3] at r2 r5
  refine hP fi' ai' ⟨r1, r2, r3, ?_, ?_⟩ ⟨r6, r7, r8⟩
  · rw [r4, e4, Int.add_assoc]; rfl
  · rw [r5, e5, Int.add_assoc]; rfl
set_option maxRecDepth 8192 in
set_option maxHeartbeats 2000000 in
theorem c_begins (hP : ∀ fi' ai', rD (10, 10, 0) 0 0 fi' ai' → dfr fi ai fi' ai' → P (.inl none) fi' (rF fr) (rA ai') al) : Call 1 scL scX (d + 1) 151 [.inr (.inl (some 54))] N fi (rF fr) (rA ai) al N P := by
  have k := hP (up2 (up2 fi 54 30 0) 54 31 0) (up2 (up2 (up2 (up2 (up2 (up2 (up2 (up2 (up2 (up2 (up2 (up2 ai 112 0 10) 112 1 10) 114 0 0) 114 1 0) 114 2 0) 114 3 0) 114 4 0) 115 0 0) 115 1 0) 115 2 0) 115 3 0) 115 4 0) ⟨rfl, rfl, rfl, rfl, rfl⟩ ⟨fun o ho => by
    rw [up2_row (by omega), up2_row (by omega), up2_row (by omega), up2_row (by omega), up2_row (by omega), up2_row (by omega), up2_row (by omega), up2_row (by omega), up2_row (by omega), up2_row (by omega), up2_row (by omega), up2_row (by omega)], fun o ho => by rw [up2_row ho, up2_row ho], fun k k1 k2 => by rw [up2_if, if_neg (fun z => k2 z.2), up2_if, if_neg (fun z => k1 z.2)]⟩
  rw [← rA_up (by decide) (by decide), ← rA_up (by decide) (by decide), ← rA_up (by decide) (by decide), ← rA_up (by decide) (by decide), ← rA_up (by decide) (by decide), ← rA_up (by decide) (by decide), ← rA_up (by decide) (by decide), ← rA_up (by decide) (by decide), ← rA_up (by decide) (by decide), ← rA_up (by decide) (by decide), ← rA_up (by decide) (by decide), ← rA_up (by decide) (by decide)] at k
  refine ⟨⟨Nat.le_refl _, rfl⟩, rc_go [] 200 ?_⟩
  refine And.intro ⟨by decide, by decide⟩ (And.intro ⟨by decide, by decide⟩ ?_)
  refine And.intro ⟨by decide, by decide⟩ (And.intro ⟨by decide, by decide⟩ ?_)
  refine And.intro ⟨⟨by decide, by decide⟩, ⟨by decide, by decide⟩⟩ (And.intro (fun h => absurd (show (2 : Int) ≤ 0 from h) (by decide)) (fun _ => ?_))
  refine And.intro ⟨⟨by decide, by decide⟩, ⟨by decide, by decide⟩⟩ (And.intro (fun h => absurd (show (5 : Int) ≤ 0 from h) (by decide)) (fun _ => ?_))
  refine And.intro ⟨by decide, by decide⟩ (And.intro ⟨by decide, by decide⟩ ?_)
  refine And.intro ⟨⟨by decide, by decide⟩, ⟨by decide, by decide⟩⟩ (And.intro (fun h => absurd (show (5 : Int) ≤ 1 from h) (by decide)) (fun _ => ?_))
  refine And.intro ⟨by decide, by decide⟩ (And.intro ⟨by decide, by decide⟩ ?_)
  refine And.intro ⟨⟨by decide, by decide⟩, ⟨by decide, by decide⟩⟩ (And.intro (fun h => absurd (show (5 : Int) ≤ 2 from h) (by decide)) (fun _ => ?_))
  refine And.intro ⟨by decide, by decide⟩ (And.intro ⟨by decide, by decide⟩ ?_)
  refine And.intro ⟨⟨by decide, by decide⟩, ⟨by decide, by decide⟩⟩ (And.intro (fun h => absurd (show (5 : Int) ≤ 3 from h) (by decide)) (fun _ => ?_))
  refine And.intro ⟨by decide, by decide⟩ (And.intro ⟨by decide, by decide⟩ ?_)
  refine And.intro ⟨⟨by decide, by decide⟩, ⟨by decide, by decide⟩⟩ (And.intro (fun h => absurd (show (5 : Int) ≤ 4 from h) (by decide)) (fun _ => ?_))
  refine And.intro ⟨by decide, by decide⟩ (And.intro ⟨by decide, by decide⟩ ?_)
  refine And.intro ⟨⟨by decide, by decide⟩, ⟨by decide, by decide⟩⟩ (And.intro (fun _ => ?_) (fun h => absurd (by decide : (5 : Int) ≤ 5) h))
  refine And.intro ⟨⟨by decide, by decide⟩, ⟨by decide, by decide⟩⟩ (And.intro (fun h => absurd (show (2 : Int) ≤ 1 from h) (by decide)) (fun _ => ?_))
  refine And.intro ⟨⟨by decide, by decide⟩, ⟨by decide, by decide⟩⟩ (And.intro (fun h => absurd (show (5 : Int) ≤ 0 from h) (by decide)) (fun _ => ?_))
  refine And.intro ⟨by decide, by decide⟩ (And.intro ⟨by decide, by decide⟩ ?_)
  refine And.intro ⟨⟨by decide, by decide⟩, ⟨by decide, by decide⟩⟩ (And.intro (fun h => absurd (show (5 : Int) ≤ 1 from h) (by decide)) (fun _ => ?_))
  refine And.intro ⟨by decide, by decide⟩ (And.intro ⟨by decide, by decide⟩ ?_)
  refine And.intro ⟨⟨by decide, by decide⟩, ⟨by decide, by decide⟩⟩ (And.intro (fun h => absurd (show (5 : Int) ≤ 2 from h) (by decide)) (fun _ => ?_))
  refine And.intro ⟨by decide, by decide⟩ (And.intro ⟨by decide, by decide⟩ ?_)
  refine And.intro ⟨⟨by decide, by decide⟩, ⟨by decide, by decide⟩⟩ (And.intro (fun h => absurd (show (5 : Int) ≤ 3 from h) (by decide)) (fun _ => ?_))
  refine And.intro ⟨by decide, by decide⟩ (And.intro ⟨by decide, by decide⟩ ?_)
  refine And.intro ⟨⟨by decide, by decide⟩, ⟨by decide, by decide⟩⟩ (And.intro (fun h => absurd (show (5 : Int) ≤ 4 from h) (by decide)) (fun _ => ?_))
  refine And.intro ⟨by decide, by decide⟩ (And.intro ⟨by decide, by decide⟩ ?_)
  refine And.intro ⟨⟨by decide, by decide⟩, ⟨by decide, by decide⟩⟩ (And.intro (fun _ => ?_) (fun h => absurd (by decide : (5 : Int) ≤ 5) h))
  refine And.intro ⟨⟨by decide, by decide⟩, ⟨by decide, by decide⟩⟩ (And.intro (fun _ => ?_) (fun h => absurd (by decide : (2 : Int) ≤ 2) h))
  exact And.intro rfl k
def Ld (but hour q : Int) : List (Option av) := [some (.inr (.inl (some 54))), some (.inl but), some (.inl hour), some (.inl q)]
/-- the opening of a mill, but in an hour -/
def bt (m but hour : Int) (pl : Nat → Int) (q : Nat) : Int := if but = m ∧ ((q : Int)).tdiv 4 = hour then 0 else pl q
theorem dg_a {but hour : Int} {q : Nat} {a : Int} (hq : q < 96) (hb : -1 ≤ but ∧ but ≤ 1) (hh : 0 ≤ hour ∧ hour ≤ 23) (ha : bt 0 but hour (ai 80) q = a)
    (hk : Rc 1 (Call 1 scL scX (d + 3)) (mt 156) P N scL scX 31 (Ld but hour q) [.inl a, .inl (q : Int), .inr (.inl (some 54))] N fi (rF fr) (rA ai) al) :
    Rc 1 (Call 1 scL scX (d + 3)) (mt 156) P N scL scX 2 (Ld but hour q) [] N fi (rF fr) (rA ai) al := by
  unfold bt at ha
  have h4 := td4 (q := (q : Int)) (by omega) (by omega)
  have r4 : rg ((q : Int).tdiv 4) := rg_sm (by have := h4.1; omega) (by have := h4.2; omega)
  have open0 : ¬ (but = 0 ∧ ((q : Int)).tdiv 4 = hour) → Call 1 scL scX (d + 3) 145 [.inr (.inl (some 54)), .inl 0, .inl (q : Int)] N fi (rF fr) (rA ai) al N (fun o fi' fr' ai' al' => o = .inl (some (.inl a)) ∧ fi' = fi ∧ fr' = rF fr ∧ ai' = rA ai ∧ al' = al) := fun hn => by
    rw [if_neg hn] at ha
    exact c_openBy (m := 0) (Or.inl rfl) (by omega) (by omega) ⟨by rw [← ha]; rfl, rfl, rfl, rfl, rfl⟩
  refine rc_go [31] 40 ?_
  refine And.intro ⟨rg_sm (by omega) (by omega), ⟨by decide, by decide⟩⟩ (And.intro (fun h => absurd (show (96 : Int) ≤ (q : Int) from h) (by omega)) (fun _ => ?_))
  refine And.intro (fun hne => And.intro (rg_sm (by omega) (by omega)) (And.intro ⟨by decide, by decide⟩ ?_)) (fun he => ?_)
  · have hne : but ≠ 0 := hne
    refine Exists.intro N (And.intro ⟨Nat.le_refl _, Nat.le_refl _⟩ (Call_mono _ _ _ _ _ _ _ _ _ _ _ _ _ _ (fun o fi' fr' ai' al' hx => ?_) (open0 (fun z => hne z.1))))
    obtain ⟨rfl, rfl, rfl, rfl, rfl⟩ := hx
    exact hk
  · have he : but = 0 := he
    refine And.intro ⟨rg_sm (by omega) (by omega), ⟨by decide, by decide⟩, by decide⟩ ?_
    refine And.intro (fun hne => And.intro r4 (And.intro (rg_sm (by omega) (by omega)) ?_)) (fun h4e => ?_)
    · have hne : ((q : Int)).tdiv 4 ≠ hour := hne
      refine Exists.intro N (And.intro ⟨Nat.le_refl _, Nat.le_refl _⟩ (Call_mono _ _ _ _ _ _ _ _ _ _ _ _ _ _ (fun o fi' fr' ai' al' hx => ?_) (open0 (fun z => hne z.2))))
      obtain ⟨rfl, rfl, rfl, rfl, rfl⟩ := hx
      exact hk
    · have h4e : ((q : Int)).tdiv 4 = hour := h4e
      rw [if_pos ⟨he, h4e⟩] at ha
      subst ha
      exact hk
theorem dg_b {but hour : Int} {q : Nat} {a b : Int} (hq : q < 96) (hb : -1 ≤ but ∧ but ≤ 1) (hh : 0 ≤ hour ∧ hour ≤ 23) (ha : bt 1 but hour (ai 81) q = b)
    (hk : Rc 1 (Call 1 scL scX (d + 3)) (mt 156) P N scL scX 53 (Ld but hour q) [.inl b, .inl a, .inl (q : Int), .inr (.inl (some 54))] N fi (rF fr) (rA ai) al) :
    Rc 1 (Call 1 scL scX (d + 3)) (mt 156) P N scL scX 31 (Ld but hour q) [.inl a, .inl (q : Int), .inr (.inl (some 54))] N fi (rF fr) (rA ai) al := by
  unfold bt at ha
  have h4 := td4 (q := (q : Int)) (by omega) (by omega)
  have r4 : rg ((q : Int).tdiv 4) := rg_sm (by have := h4.1; omega) (by have := h4.2; omega)
  have open0 : ¬ (but = 1 ∧ ((q : Int)).tdiv 4 = hour) → Call 1 scL scX (d + 3) 145 [.inr (.inl (some 54)), .inl 1, .inl (q : Int)] N fi (rF fr) (rA ai) al N (fun o fi' fr' ai' al' => o = .inl (some (.inl b)) ∧ fi' = fi ∧ fr' = rF fr ∧ ai' = rA ai ∧ al' = al) := fun hn => by
    rw [if_neg hn] at ha
    exact c_openBy (m := 1) (Or.inr rfl) (by omega) (by omega) ⟨by rw [← ha]; rfl, rfl, rfl, rfl, rfl⟩
  refine rc_go [53] 40 ?_
  refine And.intro (fun hne => And.intro (rg_sm (by omega) (by omega)) (And.intro ⟨by decide, by decide⟩ ?_)) (fun he => ?_)
  · have hne : but ≠ 1 := hne
    refine Exists.intro N (And.intro ⟨Nat.le_refl _, Nat.le_refl _⟩ (Call_mono _ _ _ _ _ _ _ _ _ _ _ _ _ _ (fun o fi' fr' ai' al' hx => ?_) (open0 (fun z => hne z.1))))
    obtain ⟨rfl, rfl, rfl, rfl, rfl⟩ := hx
    exact hk
  · have he : but = 1 := he
    refine And.intro ⟨rg_sm (by omega) (by omega), ⟨by decide, by decide⟩, by decide⟩ ?_
    refine And.intro (fun hne => And.intro r4 (And.intro (rg_sm (by omega) (by omega)) ?_)) (fun h4e => ?_)
    · have hne : ((q : Int)).tdiv 4 ≠ hour := hne
      refine Exists.intro N (And.intro ⟨Nat.le_refl _, Nat.le_refl _⟩ (Call_mono _ _ _ _ _ _ _ _ _ _ _ _ _ _ (fun o fi' fr' ai' al' hx => ?_) (open0 (fun z => hne z.2))))
      obtain ⟨rfl, rfl, rfl, rfl, rfl⟩ := hx
      exact hk
    · have h4e : ((q : Int)).tdiv 4 = hour := h4e
      rw [if_pos ⟨he, h4e⟩] at ha
      subst ha
      exact hk
theorem dg_l {s : Int × Int × Int} {A B : Nat → Int} {g h but hour : Int} {f0' a0' : tF} (hs : okW3 s) (hA : ab3 A) (hB : ab3 B) (hb : -1 ≤ but ∧ but ≤ 1) (hh : 0 ≤ hour ∧ hour ≤ 23) (hpA : ∀ q, q < 96 → bt 0 but hour (a0' 80) q = A q) (hpB : ∀ q, q < 96 → bt 1 but hour (a0' 81) q = B q) (h36 : f0' 54 36 = -1)
    (hP : ∀ fi' ai', rD (dU s A B 96) (g + sA s A B 96) (h + sB s A B 96) fi' ai' → dfr f0' a0' fi' ai' → P (.inl none) fi' (rF fr) (rA ai') al) :
    ∀ (n q : Nat) (f a : tF), q + n = 96 → rD (dU s A B q) (g + sA s A B q) (h + sB s A B q) f a → dfr f0' a0' f a → Rc 1 (Call 1 scL scX (d + 3)) (mt 156) P N scL scX 2 (Ld but hour q) [] N f (rF fr) (rA a) al := by
  intro n
  induction n with
  | zero =>
    intro q f a hn hD hf
    have e : q = 96 := by omega
    subst e
    refine rc_go [] 10 ?_
    exact And.intro ⟨⟨by decide, by decide⟩, ⟨by decide, by decide⟩⟩ (And.intro (fun _ => And.intro rfl (hP f a hD hf)) (fun h => absurd (by decide : (96 : Int) ≤ 96) h))
  | succ n ih =>
    intro q f a hn hD hf
    refine dg_a (by omega) hb hh (a := A q) (by rw [hf.1 80 (Or.inl (by decide))]; exact hpA q (by omega)) ?_
    refine dg_b (by omega) hb hh (b := B q) (by rw [hf.1 81 (Or.inl (by decide))]; exact hpB q (by omega)) ?_
    refine rc_go [2] 10 ?_
    refine Exists.intro N (And.intro ⟨Nat.le_refl _, Nat.le_refl _⟩ (c_quarterD (g := g) (h := h) hs hA hB (by omega) rfl rfl hD ((hf.2.2 36 (by decide) (by decide)).trans h36) (fun f1 a1 hD1 hf1 => ?_)))
    exact ih (q + 1) f1 a1 (by omega) hD1 (dfr_tr hf hf1)
theorem c_dayGoes {s : Int × Int × Int} {A B : Nat → Int} {g h but hour : Int} (hs : okW3 s) (hA : ab3 A) (hB : ab3 B) (hb : -1 ≤ but ∧ but ≤ 1) (hh : 0 ≤ hour ∧ hour ≤ 23) (hpA : ∀ q, q < 96 → bt 0 but hour (ai 80) q = A q) (hpB : ∀ q, q < 96 → bt 1 but hour (ai 81) q = B q) (h36 : fi 54 36 = -1) (hD : rD s g h fi ai)
    (hP : ∀ fi' ai', rD (dU s A B 96) (g + sA s A B 96) (h + sB s A B 96) fi' ai' → dfr fi ai fi' ai' → P (.inl none) fi' (rF fr) (rA ai') al) :
    Call 1 scL scX (d + 4) 156 [.inr (.inl (some 54)), .inl but, .inl hour] N fi (rF fr) (rA ai) al N P := by
  refine ⟨⟨Nat.le_refl _, rfl⟩, rc_go [2] 10 ?_⟩
  refine dg_l hs hA hB hb hh hpA hpB h36 hP 96 0 fi ai (by decide) ?_ (dfr_0 fi ai)
  obtain ⟨e1, e2, e3, e4, e5⟩ := hD
  refine ⟨e1, e2, e3, ?_, ?_⟩
  · rw [e4]; exact (Int.add_zero g).symm
  · rw [e5]; exact (Int.add_zero h).symm
/-- the day's start -/
def s0 : Int × Int × Int := (10, 10, 0)
theorem s0_ok : okW3 s0 := ⟨⟨by decide, by decide⟩, ⟨by decide, by decide⟩, ⟨by decide, by decide⟩⟩
theorem bt_no {m : Int} {pl : Nat → Int} {q : Nat} (h : 0 ≤ m) : bt m (-1) 0 pl q = pl q := by
  unfold bt
  rw [if_neg (by omega)]
theorem c_goes {A B : Nat → Int} (hA : ab3 A) (hB : ab3 B) (hpA : ∀ q, q < 96 → ai 80 q = A q) (hpB : ∀ q, q < 96 → ai 81 q = B q) (h36 : fi 54 36 = -1)
    (hP : ∀ fi' ai', rD (dU s0 A B 96) (sA s0 A B 96) (sB s0 A B 96) fi' ai' → dfr fi ai fi' ai' → P (.inl none) fi' (rF fr) (rA ai') al) :
    Call 1 scL scX (d + 5) 157 [.inr (.inl (some 54))] N fi (rF fr) (rA ai) al N P := by
  refine ⟨⟨Nat.le_refl _, rfl⟩, rc_go [] 12 ?_⟩
  refine Exists.intro N (And.intro ⟨Nat.le_refl _, Nat.le_refl _⟩ (c_begins (fun f1 a1 hD hf => ?_)))
  refine Exists.intro N (And.intro ⟨Nat.le_refl _, Nat.le_refl _⟩ (c_dayGoes (g := 0) (h := 0) (A := A) (B := B) s0_ok hA hB ⟨by decide, by decide⟩ ⟨by decide, by decide⟩ (fun q hq => ?_) (fun q hq => ?_) ((hf.2.2 36 (by decide) (by decide)).trans h36) hD (fun f2 a2 hD2 hf2 => ?_)))
  · rw [bt_no (by decide), hf.1 80 (Or.inl (by decide))]; exact hpA q hq
  · rw [bt_no (by decide), hf.1 81 (Or.inl (by decide))]; exact hpB q hq
  · rw [Int.zero_add, Int.zero_add] at hD2
    exact And.intro rfl (hP f2 a2 hD2 (dfr_tr hf hf2))
/-- a mill's ground by a day -/
def sM (m : Int) (A B : Nat → Int) : Int := if m = 0 then sA s0 A B 96 else sB s0 A B 96
theorem c_groundBy {m V : Int} {A B : Nat → Int} (hm : m = 0 ∨ m = 1) (hA : ab3 A) (hB : ab3 B) (hpA : ∀ q, q < 96 → ai 80 q = A q) (hpB : ∀ q, q < 96 → ai 81 q = B q) (h36 : fi 54 36 = -1) (hV : sM m A B = V)
    (hP : ∀ fi' ai', dfr fi ai fi' ai' → P (.inl (some (.inl V))) fi' (rF fr) (rA ai') al) :
    Call 1 scL scX (d + 6) 180 [.inr (.inl (some 54)), .inl m] N fi (rF fr) (rA ai) al N P := by
  refine ⟨⟨Nat.le_refl _, rfl⟩, rc_go [] 20 ?_⟩
  refine Exists.intro N (And.intro ⟨Nat.le_refl _, Nat.le_refl _⟩ (c_goes hA hB hpA hpB h36 (fun f1 a1 hD hf => ?_)))
  obtain ⟨-, -, -, e4, e5⟩ := hD
  unfold sM at hV
  rcases hm with rfl | rfl
  · rw [if_pos rfl, ← e4] at hV
    subst hV
    refine And.intro ⟨by decide, by decide⟩ (And.intro ⟨by decide, by decide⟩ ?_)
    exact And.intro rfl (hP f1 a1 hf)
  · rw [if_neg (by decide), ← e5] at hV
    subst hV
    refine And.intro ⟨by decide, by decide⟩ (And.intro ⟨by decide, by decide⟩ ?_)
    exact And.intro rfl (hP f1 a1 hf)
theorem bg_l {m V : Int} {A B : Nat → Int} {f0' a0' : tF} (hm : m = 0 ∨ m = 1) (hA : ab3 A) (hB : ab3 B) (hpA : ∀ q, q < 96 → a0' 123 q = A q) (hpB : ∀ q, q < 96 → a0' 124 q = B q) (h36 : f0' 54 36 = -1) (hV : sM m A B = V)
    (hP : ∀ fi' ai', dfr f0' a0' fi' ai' → P (.inl (some (.inl V))) fi' (rF fr) (rA ai') al) :
    ∀ (n q : Nat) (f a : tF), q + n = 96 → rD (dU s0 A B q) (sA s0 A B q) (sB s0 A B q) f a → dfr f0' a0' f a → Rc 1 (Call 1 scL scX (d + 3)) (mt 199) P N scL scX 10 [some (.inr (.inl (some 54))), some (.inl m), some (.inl (q : Int))] [] N f (rF fr) (rA a) al := by
  intro n
  induction n with
  | zero =>
    intro q f a hn hD hf
    have e : q = 96 := by omega
    subst e
    obtain ⟨-, -, -, e4, e5⟩ := hD
    refine rc_go [] 20 ?_
    refine And.intro ⟨⟨by decide, by decide⟩, ⟨by decide, by decide⟩⟩ (And.intro (fun _ => ?_) (fun h => absurd (by decide : (96 : Int) ≤ 96) h))
    unfold sM at hV
    rcases hm with rfl | rfl
    · rw [if_pos rfl, ← e4] at hV
      subst hV
      refine And.intro ⟨by decide, by decide⟩ (And.intro ⟨by decide, by decide⟩ ?_)
      exact And.intro rfl (hP f a hf)
    · rw [if_neg (by decide), ← e5] at hV
      subst hV
      refine And.intro ⟨by decide, by decide⟩ (And.intro ⟨by decide, by decide⟩ ?_)
      exact And.intro rfl (hP f a hf)
  | succ n ih =>
    intro q f a hn hD hf
    have iq : inb (q : Int) 96 := ⟨by omega, by show (q : Int) < 96; omega⟩
    rw [← Int.zero_add (sA s0 A B q), ← Int.zero_add (sB s0 A B q)] at hD
    refine rc_go [10] 30 ?_
    refine And.intro ⟨rg_sm (by omega) (by omega), ⟨by decide, by decide⟩⟩ (And.intro (fun h => absurd (show (96 : Int) ≤ (q : Int) from h) (by omega)) (fun _ => ?_))
    refine And.intro ⟨by decide, by decide⟩ (And.intro iq (And.intro ⟨by decide, by decide⟩ (And.intro iq ?_)))
    refine Exists.intro N (And.intro ⟨Nat.le_refl _, Nat.le_refl _⟩ (c_quarterD (g := 0) (h := 0) s0_ok hA hB (by omega) (show a 123 q = A q by rw [hf.1 123 (Or.inr (by decide))]; exact hpA q (by omega)) (show a 124 q = B q by rw [hf.1 124 (Or.inr (by decide))]; exact hpB q (by omega)) hD ((hf.2.2 36 (by decide) (by decide)).trans h36) (fun f1 a1 hD1 hf1 => ?_)))
    rw [Int.zero_add, Int.zero_add] at hD1
    exact ih (q + 1) f1 a1 (by omega) hD1 (dfr_tr hf hf1)
/-- bestGround behind lays: what a mill grinds along the best plans -/
theorem c_bestGround {K : Nat → Int → Int → Int → Int} {m V : Int} (hm : m = 0 ∨ m = 1) (hmk : 0 ≤ fi 54 39 ∧ fi 54 39 ≤ 40) (hK : ∀ q, q < 96 → 0 ≤ rPk K q ∧ rPk K q ≤ 15) (hr : ∀ q : Nat, q < 96 → rdB (ai 128 ((cx q (rSt K q).1 (rSt K q).2.1 (rSt K q).2.2).tdiv 8).toNat) (cx q (rSt K q).1 (rSt K q).2.1 (rSt K q).2.2) = rPk K q) (h36 : fi 54 36 = -1) (hV : sM m (fun q => rPk K q / 4) (fun q => rPk K q % 4) = V)
    (hP : ∀ fi' ai', fi' 54 0 = fi 54 0 → P (.inl (some (.inl V))) fi' (rF fr) (rA ai') al) :
    Call 1 scL scX (d + 5) 199 [.inr (.inl (some 54)), .inl m] N fi (rF fr) (rA ai) al N P := by
  refine ⟨⟨Nat.le_refl _, rfl⟩, rc_go [10] 20 ?_⟩
  refine Exists.intro N (And.intro ⟨Nat.le_refl _, Nat.le_refl _⟩ (c_followsBest hmk hK hr (fun A sb hA => ?_)))
  refine Exists.intro N (And.intro ⟨Nat.le_refl _, Nat.le_refl _⟩ (c_begins (fun f1 a1 hD hf => ?_)))
  have h36' : f1 54 36 = -1 := (hf.2.2 36 (by decide) (by decide)).trans h36
  refine bg_l (d := d + 1) (A := fun q => rPk K q / 4) (B := fun q => rPk K q % 4) (f0' := f1) (a0' := a1) hm (fun q hq => ?_) (fun q hq => ?_) (fun q hq => ?_) (fun q hq => ?_) h36' hV (fun f2 a2 hf2 => ?_) 96 0 f1 a1 (by decide) hD (dfr_0 _ _)
  · have := hK q hq
    show 0 ≤ rPk K q / 4 ∧ rPk K q / 4 ≤ 3
    omega
  · have := hK q hq
    show 0 ≤ rPk K q % 4 ∧ rPk K q % 4 ≤ 3
    omega
  · rw [hf.1 123 (Or.inr (by decide))]; exact (hA.2 q hq).1
  · rw [hf.1 124 (Or.inr (by decide))]; exact (hA.2 q hq).2
  · exact hP f2 a2 ((hf2.2.2 0 (by decide) (by decide)).trans (hf.2.2 0 (by decide) (by decide)))
end RDay2
