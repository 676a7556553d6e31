/-! explain: the class's loop over all rows -/
section Expl2
variable {scL : Nat} {scX : Nat → Int} {d N : Nat} {fi : tF} {fr : tR} {ai : tF} {al : tL} {P : ot}
/-- the row of the openings seen, while a row is noted -/
def sS (r h : Nat) (a0 a : tF) : Prop := (∀ k : Nat, k < 6 → seen (if k < h then r + 1 else r) (a 36 k) (k : Int)) ∧ ∀ o, o ≠ 36 → a o = a0 o
theorem sS_up {r h : Nat} {a0 a : tF} (hh : h < 6) (H : sS r h a0 a) : sS r (h + 1) a0 (up2 a 36 h (b32 (fun p q => p ||| q) (a 36 h) (b32 (fun p q => p <<< (q &&& 31)) 1 (opO (r : Int) (h : Int))))) := by
  refine ⟨fun k hk => ?_, fun o ho => by rw [up2_row ho]; exact H.2 o ho⟩
  by_cases c : k = h
  · subst c
    rw [if_pos (show k < k + 1 by omega), up2_if, if_pos ⟨rfl, rfl⟩]
    have s := H.1 k hk
    rw [if_neg (by omega)] at s
    exact seen_s s
  · have s := H.1 k hk
    by_cases c2 : k < h
    · rw [if_pos c2] at s
      rw [if_pos (show k < h + 1 by omega), up2_if, if_neg (fun z => c z.2)]
      exact s
    · rw [if_neg c2] at s
      rw [if_neg (show ¬ k < h + 1 by omega), up2_if, if_neg (fun z => c z.2)]
      exact s
theorem nw_l {r : Nat} {a0 : tF} (hP : ∀ a, sS r 6 a0 a → P (.inl none) fi eF (cA a) al) :
    ∀ (n h : Nat) (a : tF), h + n = 6 → sS r h a0 a → Rc 1 (Call 1 scL scX (d + 1)) (mt 61) P N scL scX 24 [some (.inr (.inl (some 30))), some (.inl (r : Int)), some (.inl (h : Int))] [] N fi eF (cA a) al := by
  intro n
  induction n with
  | zero =>
    intro h a hn ha
    have e : h = 6 := by omega
    subst e
    refine rc_go [] 20 ?_
    exact And.intro ⟨⟨by decide, by decide⟩, ⟨by decide, by decide⟩⟩ (And.intro (fun _ => And.intro rfl (hP a ha)) (fun h => absurd (by decide : (6 : Int) ≤ 6) h))
  | succ n ih =>
    intro h a hn ha
    have key := ih (h + 1) _ (by omega) (sS_up (by omega) ha)
    rw [← cA_up rfl] at key
    have i6 : inb (h : Int) 6 := ⟨by omega, by show (h : Int) < 6; omega⟩
    refine rc_go [24] 30 ?_
    refine And.intro ⟨rg_sm (by omega) (by omega), ⟨by decide, by decide⟩⟩ (And.intro (fun h' => absurd (show (6 : Int) ≤ (h : Int) from h') (by omega)) (fun _ => ?_))
    refine And.intro i6 ?_
    refine Exists.intro N (And.intro ⟨Nat.le_refl _, Nat.le_refl _⟩ (c_openingOf ?_))
    refine And.intro i6 ?_
    exact key
theorem c_noteWay {r : Nat} (hr : r ≤ 4096) (h9 : fi 30 9 = (r : Int)) (hs : ∀ k : Nat, k < 6 → seen r (ai 36 k) (k : Int)) (hP : ∀ f a, f 30 9 = (r : Int) + 1 → f 30 10 = (if r = 0 then 0 else fi 30 10) → (∀ o, o ≠ 30 → f o = fi o) → (∀ k : Nat, k < 6 → seen (r + 1) (a 36 k) (k : Int)) → (∀ o, o ≠ 36 → a o = ai o) → P (.inl none) f eF (cA a) al) :
    Call 1 scL scX (d + 2) 61 [.inr (.inl (some 30)), .inl (r : Int)] N fi eF (cA ai) al N P := by
  have base : sS r 0 ai ai := ⟨fun k hk => by rw [if_neg (by omega)]; exact hs k hk, fun _ _ => rfl⟩
  refine ⟨⟨Nat.le_refl _, rfl⟩, rc_go [24] 30 ?_⟩
  refine And.intro (fun hne => And.intro (rg_sm (x := fi 30 9) (by omega) (by omega)) (And.intro ⟨by decide, by decide⟩ ?_)) (fun he => ?_)
  · have hne : fi 30 9 ≠ 0 := hne
    refine nw_l (fi := up2 fi 30 9 (fi 30 9 + 1)) (a0 := ai) (fun a ha => hP (up2 fi 30 9 (fi 30 9 + 1)) a ?_ ?_ (fun o ho => by rw [up2_row ho]) (fun k hk => by have := ha.1 k hk; rw [if_pos hk] at this; exact this) ha.2) 6 0 ai (by decide) base
    · rw [up2_if, if_pos ⟨rfl, rfl⟩, h9]
    · rw [up2_if, if_neg (by decide), if_neg (by omega)]
  · have he : fi 30 9 = 0 := he
    have er : r = 0 := by omega
    refine nw_l (fi := up2 (up2 fi 30 10 (r : Int)) 30 9 (fi 30 9 + 1)) (a0 := ai) (fun a ha => hP (up2 (up2 fi 30 10 (r : Int)) 30 9 (fi 30 9 + 1)) a ?_ ?_ (fun o ho => by rw [up2_row ho, up2_row ho]) (fun k hk => by have := ha.1 k hk; rw [if_pos hk] at this; exact this) ha.2) 6 0 ai (by decide) base
    · rw [up2_if, if_pos ⟨rfl, rfl⟩, h9]
    · rw [up2_if, if_neg (by decide), up2_if, if_pos ⟨rfl, rfl⟩, if_pos er, er]; rfl
/-- the loop of findWays -/
def wS (r : Nat) (f0 a0 f a : tF) : Prop := f 30 9 = (r : Int) ∧ f 30 10 = (if r = 0 then -1 else 0) ∧ (∀ o, o ≠ 30 → o ≠ 32 → f o = f0 o) ∧ (∀ h : Nat, h ≤ 6 → okW3 (a 33 h, a 34 h, a 35 h)) ∧ (∀ k : Nat, k < 6 → seen r (a 36 k) (k : Int)) ∧ ∀ o, o < 33 ∨ 36 < o → a o = a0 o
theorem fw_l {f0 a0 : tF} (h31 : ∀ k, a0 31 k = -1) (h29 : ∀ k, a0 29 k = 0) (hmk : f0 3 6 = 40) (hP : ∀ f a, wS 4096 f0 a0 f a → P (.inl none) f eF (cA a) al) :
    ∀ (n r : Nat) (f a : tF) (x : Option av), r + n = 4096 → wS r f0 a0 f a → Rc 1 (Call 1 scL scX (d + 3)) (mt 56) P N scL scX 65 [some (.inr (.inl (some 30))), some (.inr (.inl (some 3))), some (.inr (.inl (some 29))), some (.inl 6), some (.inl (r : Int)), x] [] N f eF (cA a) al := by
  intro n
  induction n with
  | zero =>
    intro r f a x hn hw
    have e : r = 4096 := by omega
    subst e
    refine rc_go [] 20 ?_
    exact And.intro ⟨⟨by decide, by decide⟩, ⟨by decide, by decide⟩⟩ (And.intro (fun _ => And.intro rfl (hP f a hw)) (fun h => absurd (by decide : (4096 : Int) ≤ 4096) h))
  | succ n ih =>
    intro r f a x hn hw
    obtain ⟨w1, w2, w3, w4, w5, w6⟩ := hw
    refine rc_go [65] 60 ?_
    refine And.intro ⟨rg_sm (by omega) (by omega), ⟨by decide, by decide⟩⟩ (And.intro (fun h' => absurd (show (4096 : Int) ≤ (r : Int) from h') (by omega)) (fun _ => ?_))
    refine Exists.intro N (And.intro ⟨Nat.le_refl _, Nat.le_refl _⟩ (c_firstChanged (d := d + 1) (fun c hc => ?_)))
    refine And.intro ⟨rg_sm (by omega) (by omega), ⟨by decide, by decide⟩⟩ (And.intro (fun h' => absurd (show (6 : Int) < c from h') (by omega)) (fun _ => ?_))
    refine Exists.intro N (And.intro ⟨Nat.le_refl _, Nat.le_refl _⟩ (c_fitting (r := (r : Int)) hc (fun k => by rw [w6 31 (by omega)]; exact h31 k) (fun k => by rw [w6 29 (by omega)]; exact h29 k) (by rw [w3 3 (by decide) (by decide)]; exact hmk) w4 (fun f1 a1 g1 g2 => ?_)))
    refine And.intro (fun h => absurd rfl h) (fun _ => ?_)
    refine Exists.intro N (And.intro ⟨Nat.le_refl _, Nat.le_refl _⟩ (c_noteWay (d := d + 1) (r := r) (by omega) (by rw [g1 30 (by decide)]; exact w1) (fun k hk => by rw [g2.2 36 (by decide) (by decide) (by decide)]; exact w5 k hk) (fun f2 a2 k1 k2 k3 k4 k5 => ?_)))
    refine ih (r + 1) f2 a2 (some (.inl c)) (by omega) ⟨by rw [k1]; omega, ?_, fun o h1 h2 => by rw [k3 o h1, g1 o h2]; exact w3 o h1 h2, fun h hh => by rw [k5 33 (by decide), k5 34 (by decide), k5 35 (by decide)]; exact g2.1 h hh, k4, fun o ho => by rw [k5 o (by omega), g2.2 o (by omega) (by omega) (by omega)]; exact w6 o ho⟩
    rw [if_neg (show ¬ r + 1 = 0 by omega), k2, g1 30 (by decide), w2]
    by_cases c0 : r = 0
    · rw [if_pos c0]
    · rw [if_neg c0, if_neg c0]
theorem f36_l (h36 : ∀ k, ai 36 k = 0) (hP : P (.inl none) fi fr (cA ai) al) : ∀ (n k : Nat), k + n = 6 → Rc 1 (Call 1 scL scX d) (mt 217) P N scL scX 5 [some (.inr (.inl (some 36))), some (.inl 0), some (.inl (k : Int)), some (.inl 6)] [] N fi fr (cA ai) al := by
  intro n
  induction n with
  | zero =>
    intro k hn
    have e : k = 6 := by omega
    subst e
    refine rc_go [] 10 ?_
    exact And.intro ⟨⟨by decide, by decide⟩, ⟨by decide, by decide⟩⟩ (And.intro (fun _ => And.intro rfl hP) (fun h => absurd (by decide : (6 : Int) ≤ 6) h))
  | succ n ih =>
    intro k hn
    have key := ih (k + 1) (by omega)
    have e : up2 (cA ai) 36 k 0 = cA ai := by
      have := up2_id (cA ai) 36 k
      rw [show cA ai 36 k = 0 from h36 k] at this
      exact this
    rw [← e] at key
    refine rc_go [5] 20 ?_
    refine And.intro ⟨rg_sm (by omega) (by omega), ⟨by decide, by decide⟩⟩ (And.intro (fun h' => absurd (show (6 : Int) ≤ (k : Int) from h') (by omega)) (fun _ => ?_))
    refine And.intro ⟨by omega, by show (k : Int) < 6; omega⟩ ?_
    exact key
theorem c_findWays (h31 : ∀ k, ai 31 k = -1) (h29 : ∀ k, ai 29 k = 0) (h33 : ∀ k, ai 33 k = 0) (h34 : ∀ k, ai 34 k = 0) (h35 : ∀ k, ai 35 k = 0) (h36 : ∀ k, ai 36 k = 0) (hmk : fi 3 6 = 40) (hP : ∀ f a, wS 4096 fi ai f a → P (.inl none) f eF (cA a) al) :
    Call 1 scL scX (d + 4) 56 [.inr (.inl (some 30)), .inr (.inl (some 3)), .inr (.inl (some 29))] N fi frB (cA ai) al N P := by
  refine ⟨⟨Nat.le_refl _, rfl⟩, rc_go [65] 80 ?_⟩
  refine Exists.intro N (And.intro ⟨Nat.le_refl _, Nat.le_refl _⟩ ?_)
  refine ⟨⟨Nat.le_refl _, rfl⟩, rc_go [5] 10 ?_⟩
  refine f36_l h36 ?_ 6 0 (by decide)
  refine And.intro ⟨by decide, by decide⟩ (And.intro ⟨by decide, by decide⟩ ?_)
  refine And.intro ⟨by decide, by decide⟩ (And.intro ⟨by decide, by decide⟩ ?_)
  refine And.intro ⟨by decide, by decide⟩ ?_
  have z : okW3 (0, 0, 0) := ⟨⟨by decide, by decide⟩, ⟨by decide, by decide⟩, ⟨by decide, by decide⟩⟩
  have key := fw_l (scL := scL) (scX := scX) (d := d) (N := N) (al := al) (f0 := fi) (a0 := ai) h31 h29 hmk hP 4096 0 (up2 (up2 fi 30 9 0) 30 10 (-1)) (up2 (up2 (up2 ai 33 0 10) 34 0 10) 35 0 0) none (by decide) ⟨rfl, rfl, fun o h1 h2 => by rw [up2_row h1, up2_row h1], (aS_up (a0 := ai) ⟨fun h _ => by rw [h33, h34, h35]; exact z, fun _ _ _ _ => rfl⟩ s0_ok).1, fun k hk => ⟨?_, ?_, fun r0 h0 => absurd h0 (by omega)⟩, fun o ho => by rw [up2_row (by omega), up2_row (by omega), up2_row (by omega)]⟩
  · rw [← cA_up rfl, ← cA_up rfl, ← cA_up rfl] at key
    exact key
  · rw [up2_row (by decide), up2_row (by decide), up2_row (by decide), h36]; decide
  · rw [up2_row (by decide), up2_row (by decide), up2_row (by decide), h36]; decide
/-- Integer.bitCount of 15 -/
def bitOk : Prop := ∀ {scL : Nat} {scX : Nat → Int} {d N : Nat} {fi : tF} {fr : tR} {ai : tF} {al : tL} {P : ot}, P (.inl (some (.inl 4))) fi fr ai al → Call 1 scL scX (d + 1) 214 [.inl 15] N fi fr ai al N P
theorem c_bit15 {x : Int} (hb : bitOk) (hx : x = 15) (hP : P (.inl (some (.inl 4))) fi fr ai al) : Call 1 scL scX (d + 1) 214 [.inl x] N fi fr ai al N P := by
  subst hx
  exact hb hP
theorem su_l (hb : bitOk) (h36 : ∀ k : Nat, k < 6 → ai 36 k = 15) (hP : P (.inl (some (.inl 0))) fi eF (cA ai) al) : ∀ (n k : Nat), k + n = 6 → Rc 1 (Call 1 scL scX (d + 1)) (mt 62) P N scL scX 4 [some (.inr (.inl (some 30))), some (.inl 0), some (.inl (k : Int))] [] N fi eF (cA ai) al := by
  intro n
  induction n with
  | zero =>
    intro k hn
    have e : k = 6 := by omega
    subst e
    refine rc_go [] 10 ?_
    exact And.intro ⟨⟨by decide, by decide⟩, ⟨by decide, by decide⟩⟩ (And.intro (fun _ => And.intro rfl hP) (fun h => absurd (by decide : (6 : Int) ≤ 6) h))
  | succ n ih =>
    intro k hn
    have key := ih (k + 1) (by omega)
    refine rc_go [4] 20 ?_
    refine And.intro ⟨rg_sm (by omega) (by omega), ⟨by decide, by decide⟩⟩ (And.intro (fun h' => absurd (show (6 : Int) ≤ (k : Int) from h') (by omega)) (fun _ => ?_))
    refine And.intro ⟨by omega, by show (k : Int) < 6; omega⟩ ?_
    refine Exists.intro N (And.intro ⟨Nat.le_refl _, Nat.le_refl _⟩ (c_bit15 (x := ai 36 k) hb (h36 k (by omega)) ?_))
    refine And.intro (fun _ => And.intro ⟨by decide, by decide⟩ (And.intro ⟨by decide, by decide⟩ ?_)) (fun h => absurd h (by decide))
    exact key
theorem c_sure (hb : bitOk) (h36 : ∀ k : Nat, k < 6 → ai 36 k = 15) (hP : P (.inl (some (.inl 0))) fi eF (cA ai) al) : Call 1 scL scX (d + 2) 62 [.inr (.inl (some 30))] N fi eF (cA ai) al N P :=
  ⟨⟨Nat.le_refl _, rfl⟩, rc_go [4] 10 (su_l hb h36 hP 6 0 (by decide))⟩
end Expl2
