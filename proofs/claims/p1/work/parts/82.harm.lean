/-! harmless: the reference's upperAt answers one number for both heights; the class's comes to its end -/
def uF (V : Int → Int) (u a : Int) : Int := (if gX u < 5 then 0 else gM a (gX u)) + V (gX u - gM a (gX u))
def UV : Nat → Int → Int
  | 0, _ => 0
  | n + 1, u => (iC (uF (UV n) u) 4 0 (-1) 0).1
theorem UV_b : ∀ (n : Nat) (u : Int), 0 ≤ u ∧ u ≤ 20 → 0 ≤ UV n u ∧ UV n u ≤ 3 * n
  | 0, _, _ => ⟨Int.le_refl _, Int.le_refl _⟩
  | n + 1, u, hu => by
    have bx := gX_b hu
    have hF : ∀ j, 0 ≤ j → j ≤ 3 → 0 ≤ uF (UV n) u j ∧ uF (UV n) u j ≤ 3 * ((n : Int) + 1) := fun j j0 j3 => by
      have bn := gM_b (a := j) ⟨j0, j3⟩ bx
      have ih := UV_b n (gX u - gM j (gX u)) ⟨by omega, by omega⟩
      unfold uF
      split <;> omega
    have h1 := (iC_b 4 0 (-1) 0 (by decide) (by decide) (fun j a b => ⟨by have := (hF j a b).1; omega, (hF j a b).2⟩) ⟨by decide, by omega⟩).1
    have h2 := (iC_ge (F := uF (UV n) u) 4 0 (-1) 0).2 0 (by decide) (by decide)
    have h3 := (hF 0 (by decide) (by decide)).1
    unfold UV
    omega
def Lu (h q : Int) (x4 x5 x6 x7 x8 x9 : Option av) : List (Option av) := [some (.inr (.inl (some 54))), some (.inl h), some (.inl 0), some (.inl q), x4, x5, x6, x7, x8, x9]
def uG (R : Nat → Int) (x a : Int) : Int := (if x < 5 then 0 else gM a x) + R (x - gM a x).toNat
def cpU (A : tF) (n : Nat) : tF := fun i j => if i = 230 ∧ j < n then A 229 j else A i j
theorem cpU_0 (A : tF) : cpU A 0 = A := by
  funext i j
  unfold cpU
  rw [if_neg (by omega)]
theorem cpU_up (A : tF) (k : Nat) : up2 (rA (cpU A k)) 230 k (rA (cpU A k) 229 k) = rA (cpU A (k + 1)) := by
  rw [rA_up (by decide) (by decide)]
  congr 1
  funext i j
  rw [up2_if]
  have e : rA (cpU A k) 229 k = A 229 k := by
    show cpU A k 229 k = _
    unfold cpU
    rw [if_neg (by omega)]
  rw [e]
  unfold cpU
  by_cases h : i = 230 ∧ j = k
  · rw [if_pos h, if_pos ⟨h.1, by omega⟩, h.2]
  · rw [if_neg h]
    by_cases h2 : i = 230 ∧ j < k
    · rw [if_pos h2, if_pos ⟨h2.1, by omega⟩]
    · rw [if_neg h2, if_neg (by omega)]
def uJ (a0 : tF) (q : Int) (A : tF) : Prop := (∀ o, o ≠ 229 → o ≠ 230 → A o = a0 o) ∧ ∀ u, 0 ≤ u → u ≤ 20 → A 230 u.toNat = UV (95 - q).toNat u
def uI (a0 : tF) (q : Int) (A : tF) (u : Int) : Prop := uJ a0 q A ∧ ∀ k, 0 ≤ k → k < u → k ≤ 20 → A 229 k.toNat = UV (96 - q).toNat k
section UpAt
variable {scL : Nat} {scX : Nat → Int} {d N : Nat} {fi : tF} {fr : tR} {al : tL} {P : ot} {h : Int}
theorem ua_b {q u x : Int} {A : tF} (hq : 0 ≤ q ∧ q < 96) (hx : 0 ≤ x ∧ x ≤ 20) (hF : ∀ j, 0 ≤ j → j ≤ 3 → -1 ≤ uG (A 230) x j ∧ uG (A 230) x j ≤ 1000000) :
    ∀ (n : Nat) (b best : Int) (x8 x9 : Option av), 0 ≤ b → b + n = 4 → -1 ≤ best ∧ best ≤ 1000000 →
    (∀ x8' x9', Rc 1 (Call 1 scL scX (d + 3)) (mt 189) P N scL scX 181 (Lu h q (some (.inl u)) (some (.inl x)) (some (.inl (iC (uG (A 230) x) n b best 0).1)) (some (.inl 4)) x8' x9') [] N fi (rF fr) (rA A) al) →
    Rc 1 (Call 1 scL scX (d + 3)) (mt 189) P N scL scX 92 (Lu h q (some (.inl u)) (some (.inl x)) (some (.inl best)) (some (.inl b)) x8 x9) [] N fi (rF fr) (rA A) al := by
  have iw : ∀ (n : Nat) (b best w : Int), (iC (uG (A 230) x) n b best w).1 = (iC (uG (A 230) x) n b best 0).1 := by
    intro n
    induction n with
    | zero => intro b best w; rfl
    | succ n ih =>
      intro b best w
      unfold iC
      split
      · rfl
      · exact ih _ _ _
  intro n
  induction n with
  | zero =>
    intro b best x8 x9 hb hn hbest hk
    have e : b = 4 := by omega
    subst e
    refine rc_go [181] 30 ?_
    refine Exists.intro N (And.intro ⟨Nat.le_refl _, Nat.le_refl _⟩ (c_mayOpen (m := 0) (Or.inl rfl) hq.1 hq.2 ?_))
    refine And.intro (fun h => absurd h (by decide)) (fun _ => And.intro ⟨by decide, by decide⟩ (And.intro ⟨by decide, by decide⟩ ?_))
    exact And.intro ⟨⟨by decide, by decide⟩, ⟨by decide, by decide⟩⟩ (And.intro (fun _ => hk x8 x9) (fun h => absurd (by decide : (3 : Int) < 4) h))
  | succ n ih =>
    intro b best x8 x9 hb hn hbest hk
    have hFb := hF b hb (by omega)
    have bn := gM_b (a := b) ⟨hb, by omega⟩ hx
    have step : Rc 1 (Call 1 scL scX (d + 3)) (mt 189) P N scL scX 159 (Lu h q (some (.inl u)) (some (.inl x)) (some (.inl best)) (some (.inl b)) (some (.inl (gM b x))) (some (.inl (uG (A 230) x b)))) [] N fi (rF fr) (rA A) al := by
      refine rc_go [92] 30 ?_
      refine And.intro ⟨rg_sm (x := uG (A 230) x b) (by omega) (by omega), rg_sm (by omega) (by omega)⟩ (And.intro (fun hle => ?_) (fun hle => ?_))
      · have hle : uG (A 230) x b ≤ best := hle
        unfold iC at hk
        rw [if_neg (by omega)] at hk
        exact ih (b + 1) best _ _ (by omega) (by omega) hbest hk
      · have hle : ¬ uG (A 230) x b ≤ best := hle
        unfold iC at hk
        rw [if_pos (by omega), iw] at hk
        exact ih (b + 1) (uG (A 230) x b) _ _ (by omega) (by omega) hFb hk
    unfold uG at step
    refine rc_go [159] 60 ?_
    refine Exists.intro N (And.intro ⟨Nat.le_refl _, Nat.le_refl _⟩ (c_mayOpen (m := 0) (Or.inl rfl) hq.1 hq.2 ?_))
    refine And.intro (fun h => absurd h (by decide)) (fun _ => And.intro ⟨by decide, by decide⟩ (And.intro ⟨by decide, by decide⟩ ?_))
    refine And.intro ⟨rg_sm (by omega) (by omega), ⟨by decide, by decide⟩⟩ (And.intro (fun h => absurd (show (3 : Int) < b from h) (by omega)) (fun _ => ?_))
    refine And.intro ⟨by decide, by decide⟩ ?_
    refine Exists.intro N (And.intro ⟨Nat.le_refl _, Nat.le_refl _⟩ (c_less (a := b * 1) (b := x) (rg_sm (by omega) (by omega)) (rg_sm (by omega) (by omega)) ?_))
    refine And.intro ⟨by decide, by decide⟩ ?_
    refine And.intro ⟨rg_sm (x := x - 0) (by omega) (by omega), show rg 5 from ⟨by decide, by decide⟩⟩ (And.intro (fun h5 => ?_) (fun h5 => ?_))
    · have h5 : x - 0 < 5 := h5
      rw [if_pos (by omega)] at step
      refine And.intro ⟨by show 0 ≤ x - gM b x; omega, by show x - gM b x < 41; omega⟩ ?_
      exact step
    · have h5 : ¬ x - 0 < 5 := h5
      rw [if_neg (by omega)] at step
      refine And.intro ⟨by show 0 ≤ x - gM b x; omega, by show x - gM b x < 41; omega⟩ ?_
      exact step
theorem ua_u {a0 : tF} {q : Int} (hq : 0 ≤ q ∧ q < 96) :
    ∀ (n : Nat) (u : Int) (A : tF) (x5 x6 x7 x8 x9 : Option av), 0 ≤ u → u + n = 21 → uI a0 q A u →
    (∀ A' x5' x6' x7' x8' x9', uI a0 q A' 21 → Rc 1 (Call 1 scL scX (d + 3)) (mt 189) P N scL scX 196 (Lu h q (some (.inl 21)) x5' x6' x7' x8' x9') [] N fi (rF fr) (rA A') al) →
    Rc 1 (Call 1 scL scX (d + 3)) (mt 189) P N scL scX 56 (Lu h q (some (.inl u)) x5 x6 x7 x8 x9) [] N fi (rF fr) (rA A) al := by
  intro n
  induction n with
  | zero =>
    intro u A x5 x6 x7 x8 x9 h0 hn hi hk
    have e : u = 21 := by omega
    subst e
    refine rc_go [196] 12 ?_
    refine And.intro ⟨by decide, by decide⟩ ?_
    exact And.intro ⟨⟨by decide, by decide⟩, show rg 20 from ⟨by decide, by decide⟩⟩ (And.intro (fun _ => hk A _ _ _ _ _ hi) (fun h => absurd (by decide : (20 : Int) < 21) h))
  | succ n ih =>
    intro u A x5 x6 x7 x8 x9 h0 hn hi hk
    obtain ⟨hj, hv⟩ := hi
    have hu : 0 ≤ u ∧ u ≤ 20 := ⟨h0, by omega⟩
    have bx := gX_b hu
    have hFe : ∀ j, 0 ≤ j → j ≤ 3 → uG (A 230) (gX u) j = uF (UV (95 - q).toNat) u j := fun j a b => by
      have bn := gM_b (a := j) ⟨a, b⟩ bx
      unfold uG uF
      rw [hj.2 _ (by omega) (by omega)]
    have hF0 : ∀ j, 0 ≤ j → j ≤ 3 → 0 ≤ uG (A 230) (gX u) j ∧ uG (A 230) (gX u) j ≤ 1000000 := fun j a b => by
      have bn := gM_b (a := j) ⟨a, b⟩ bx
      have bl := UV_b (95 - q).toNat (gX u - gM j (gX u)) ⟨by omega, by omega⟩
      unfold uG
      rw [hj.2 _ (by omega) (by omega)]
      split <;> omega
    have en : (96 - q).toNat = (95 - q).toNat + 1 := by omega
    refine rc_go [92] 60 ?_
    refine And.intro ⟨by decide, by decide⟩ ?_
    refine And.intro ⟨rg_sm (by omega) (by omega), show rg 20 from ⟨by decide, by decide⟩⟩ (And.intro (fun h => absurd (show (20 : Int) < u from h) (by omega)) (fun _ => ?_))
    refine Exists.intro N (And.intro ⟨Nat.le_refl _, Nat.le_refl _⟩ (c_comes hq.1 hq.2 ?_))
    refine And.intro ⟨by decide, by decide⟩ ?_
    refine Exists.intro N (And.intro ⟨Nat.le_refl _, Nat.le_refl _⟩ (c_less (a := u + 2) (b := 20) (rg_sm (by omega) (by omega)) (rg_sm (by omega) (by omega)) ?_))
    refine ua_b (x := gX u) hq bx (fun j a b => ⟨by have := (hF0 j a b).1; omega, (hF0 j a b).2⟩) 4 0 (-1) x8 x9 (by decide) (by decide) ⟨by decide, by decide⟩ (fun x8' x9' => ?_)
    have ew : (iC (uG (A 230) (gX u)) 4 0 (-1) 0).1 = UV (96 - q).toNat u := by
      rw [en, iC_cg (F' := uF (UV (95 - q).toNat) u) 4 0 (-1) 0 (fun j a b => hFe j a (by omega))]
      rfl
    rw [ew]
    refine rc_go [56] 12 ?_
    refine And.intro ⟨hu.1, by show u < 41; omega⟩ ?_
    rw [rA_up (by decide) (by decide)]
    refine ih (u + 1) _ _ _ _ _ _ (by omega) (by omega) ⟨⟨fun o z1 z2 => ?_, fun k k0 k1 => ?_⟩, fun k k0 k1 k2 => ?_⟩ hk
    · rw [up2_row z1]
      exact hj.1 o z1 z2
    · rw [up2_row (by decide)]
      exact hj.2 k k0 k1
    · rw [up2_if]
      by_cases e : k = u
      · subst e
        rw [if_pos ⟨rfl, rfl⟩]
      · rw [if_neg (by omega)]
        exact hv k k0 (by omega) k2
theorem ua_cp {q : Int} {A : tF} {x5 x6 x7 x8 x9 : Option av}
    (hk : ∀ x4', Rc 1 (Call 1 scL scX (d + 3)) (mt 189) P N scL scX 226 (Lu h q x4' x5 x6 x7 x8 x9) [] N fi (rF fr) (rA (cpU A 41)) al) :
    ∀ (n k : Nat), k + n = 41 → Rc 1 (Call 1 scL scX (d + 3)) (mt 189) P N scL scX 199 (Lu h q (some (.inl (k : Int))) x5 x6 x7 x8 x9) [] N fi (rF fr) (rA (cpU A k)) al := by
  intro n
  induction n with
  | zero =>
    intro k hn
    have e : k = 41 := by omega
    subst e
    refine rc_go [226] 10 ?_
    exact And.intro ⟨⟨by decide, by decide⟩, ⟨by decide, by decide⟩⟩ (And.intro (fun _ => hk _) (fun h => absurd (by decide : (41 : Int) ≤ 41) h))
  | succ n ih =>
    intro k hn
    have key := ih (k + 1) (by omega)
    rw [← cpU_up] at key
    refine rc_go [199] 20 ?_
    refine And.intro ⟨rg_sm (by omega) (by omega), ⟨by decide, by decide⟩⟩ (And.intro (fun h => absurd (show (41 : Int) ≤ (k : Int) from h) (by omega)) (fun _ => ?_))
    refine And.intro ⟨by omega, by show (k : Int) < 41; omega⟩ ?_
    refine And.intro ⟨by omega, by show (k : Int) < 41; omega⟩ ?_
    exact key
theorem ua_q {a0 : tF} (hP : ∀ A, uJ a0 (-1) A → P (.inl (some (.inl (UV 96 10)))) fi (rF fr) (rA A) al) :
    ∀ (n : Nat) (q : Int) (A : tF) (x4 x5 x6 x7 x8 x9 : Option av), q + 1 = n → q < 96 → uJ a0 q A → Rc 1 (Call 1 scL scX (d + 3)) (mt 189) P N scL scX 49 (Lu h q x4 x5 x6 x7 x8 x9) [] N fi (rF fr) (rA A) al := by
  intro n
  induction n with
  | zero =>
    intro q A x4 x5 x6 x7 x8 x9 hn hq hj
    have e : q = -1 := by omega
    subst e
    have h := hP A hj
    have ev : A 230 10 = UV 96 10 := hj.2 10 (by decide) (by decide)
    rw [← ev] at h
    refine rc_go [] 20 ?_
    refine And.intro ⟨⟨by decide, by decide⟩, ⟨by decide, by decide⟩⟩ (And.intro (fun _ => ?_) (fun h => absurd (by decide : (-1 : Int) < 0) h))
    refine And.intro ⟨by decide, by decide⟩ (And.intro (show inb 10 41 from ⟨by decide, by decide⟩) ?_)
    exact And.intro rfl h
  | succ n ih =>
    intro q A x4 x5 x6 x7 x8 x9 hn hq hj
    have h0 : 0 ≤ q := by omega
    refine rc_go [56] 12 ?_
    refine And.intro ⟨rg_sm (by omega) (by omega), ⟨by decide, by decide⟩⟩ (And.intro (fun h => absurd (show q < 0 from h) (by omega)) (fun _ => ?_))
    refine ua_u ⟨h0, hq⟩ 21 0 A x5 x6 x7 x8 x9 (by decide) (by decide) ⟨hj, fun k k0 k1 => by omega⟩ (fun A' x5' x6' x7' x8' x9' hi => ?_)
    refine rc_go [199] 10 ?_
    have key : ∀ x4', Rc 1 (Call 1 scL scX (d + 3)) (mt 189) P N scL scX 226 (Lu h q x4' x5' x6' x7' x8' x9') [] N fi (rF fr) (rA (cpU A' 41)) al := by
      intro x4'
      refine rc_go [49] 10 ?_
      refine ih (q - 1) _ _ _ _ _ _ _ (by omega) (by omega) ⟨fun o z1 z2 => ?_, fun k k0 k1 => ?_⟩
      · have er : cpU A' 41 o = A' o := by
          funext j
          unfold cpU
          rw [if_neg (fun z => z2 z.1)]
        rw [er]
        exact hi.1.1 o z1 z2
      · have e : cpU A' 41 230 k.toNat = A' 229 k.toNat := by
          unfold cpU
          rw [if_pos ⟨rfl, by omega⟩]
        rw [e, show (95 - (q - 1)).toNat = (96 - q).toNat by omega]
        exact hi.2 k k0 (by omega) k1
    have := ua_cp (h := h) (A := A') key 41 0 (by decide)
    rw [cpU_0] at this
    exact this
theorem ua_z {A : tF} {x4 x5 x6 x7 x8 x9 : Option av}
    (hk : ∀ q, Rc 1 (Call 1 scL scX (d + 3)) (mt 189) P N scL scX 46 (Lu h q x4 x5 x6 x7 x8 x9) [] N fi (rF fr) (rA (fN A 230 41 0)) al) :
    ∀ (n k : Nat), k + n = 41 → Rc 1 (Call 1 scL scX (d + 3)) (mt 189) P N scL scX 27 (Lu h k x4 x5 x6 x7 x8 x9) [] N fi (rF fr) (rA (fN A 230 k 0)) al := by
  intro n
  induction n with
  | zero =>
    intro k hn
    have e : k = 41 := by omega
    subst e
    refine rc_go [46] 10 ?_
    exact And.intro ⟨⟨by decide, by decide⟩, ⟨by decide, by decide⟩⟩ (And.intro (fun _ => hk _) (fun h => absurd (by decide : (41 : Int) ≤ 41) h))
  | succ n ih =>
    intro k hn
    have key := ih (k + 1) (by omega)
    rw [← fN_up, ← rA_up (by decide) (by decide)] at key
    refine rc_go [27] 20 ?_
    refine And.intro ⟨rg_sm (by omega) (by omega), ⟨by decide, by decide⟩⟩ (And.intro (fun h => absurd (show (41 : Int) ≤ (k : Int) from h) (by omega)) (fun _ => ?_))
    refine And.intro ⟨by omega, by show (k : Int) < 41; omega⟩ ?_
    exact key
theorem c_upperAt {ai : tF} {V : Int} (hh : 0 ≤ h ∧ h ≤ 40) (hV : UV 96 10 = V) (hP : ∀ A, P (.inl (some (.inl V))) fi (rF fr) (rA A) al) : Call 1 scL scX (d + 4) 189 [.inr (.inl (some 54)), .inl h] N fi (rF fr) (rA ai) al N P := by
  subst hV
  have key : ∀ q, Rc 1 (Call 1 scL scX (d + 3)) (mt 189) P N scL scX 46 (Lu h q none none none none none none) [] N fi (rF fr) (rA (fN ai 230 41 0)) al := by
    intro q
    refine rc_go [49] 10 ?_
    refine ua_q (a0 := ai) (fun A _ => hP A) 96 95 _ _ _ _ _ _ _ (by decide) (by decide) ⟨fun o z1 z2 => fN_row z2, fun u u0 u1 => ?_⟩
    rw [fN_at (by omega)]; rfl
  have h2 := ua_z (h := h) (A := ai) key 41 0 (by decide)
  rw [fN_0] at h2
  refine ⟨⟨Nat.le_refl _, rfl⟩, rc_go [27] 20 ?_⟩
  refine And.intro ⟨by decide, by decide⟩ ?_
  refine And.intro ⟨rg_sm (by omega) (by omega), show rg 40 from ⟨by decide, by decide⟩⟩ (And.intro (fun _ => ?_) (fun hn => absurd (show h ≤ 40 by omega) hn))
  exact h2
theorem c_mharm {ai : tF} (hP : ∀ fi' A, P (.inl (some (.inl 40))) fi' (rF fr) (rA A) al) : Call 1 scL scX (d + 5) 190 [.inr (.inl (some 54))] N fi (rF fr) (rA ai) al N P := by
  obtain ⟨V, hV⟩ : ∃ V, UV 96 10 = V := ⟨_, rfl⟩
  refine ⟨⟨Nat.le_refl _, rfl⟩, rc_go [] 30 ?_⟩
  refine Exists.intro N (And.intro ⟨Nat.le_refl _, Nat.le_refl _⟩ (c_upperAt (V := V) ⟨by decide, by decide⟩ hV (fun A => ?_)))
  refine And.intro ⟨⟨by decide, by decide⟩, ⟨by decide, by decide⟩⟩ (And.intro (fun h => absurd (show (40 : Int) < 0 from h) (by decide)) (fun _ => ?_))
  refine Exists.intro N (And.intro ⟨Nat.le_refl _, Nat.le_refl _⟩ (c_upperAt (V := V) ⟨by decide, by decide⟩ hV (fun A2 => ?_)))
  refine And.intro (fun h => absurd rfl h) (fun _ => ?_)
  exact And.intro rfl (hP _ _)
end UpAt
/-! the class's mostWithBackwater comes to its end -/
def cH (nr fa : Nat) : tR := fun o k => bif Nat.beq o 233 then (bif Nat.beq k 0 then some nr else bif Nat.beq k 1 then some fa else bif Nat.beq k 9 then none else frB 233 k) else bif Nat.beq o 0 then (bif Nat.beq k 10 then some 233 else frB 0 k) else bif Nat.ble o 53 then frB o k else frB o k
theorem cH_0 : cF0 frB = cH 234 235 := rfl
theorem cH_sw {nr fa : Nat} : up2 (up2 (cH nr fa) 233 0 (some fa)) 233 1 (some nr) = cH fa nr := by
  funext i j
  rw [up2_if, up2_if]
  by_cases h1 : i = 233 ∧ j = 1
  · rw [if_pos h1, h1.1, h1.2]; rfl
  · rw [if_neg h1]
    by_cases h0 : i = 233 ∧ j = 0
    · rw [if_pos h0, h0.1, h0.2]; rfl
    · rw [if_neg h0]
      unfold cH
      by_cases hi : i = 233
      · subst hi
        have e0 : Nat.beq j 0 = false := by
          cases e : Nat.beq j 0
          · rfl
          · exact absurd ⟨rfl, Nat.eq_of_beq_eq_true e⟩ h0
        have e1 : Nat.beq j 1 = false := by
          cases e : Nat.beq j 1
          · rfl
          · exact absurd ⟨rfl, Nat.eq_of_beq_eq_true e⟩ h1
        rw [e0, e1]; rfl
      · have e : Nat.beq i 233 = false := by
          cases e : Nat.beq i 233
          · rfl
          · exact absurd (Nat.eq_of_beq_eq_true e) hi
        rw [e]; rfl
def bdM (M : Int) (A : tF) : Prop := (∀ k, 0 ≤ A 234 k ∧ A 234 k ≤ M) ∧ (∀ k, 0 ≤ A 235 k ∧ A 235 k ≤ M)
def Lk (q cm u wo most o : Int) (x10 : Option av) : List (Option av) := [some (.inr (.inl (some 233))), some (.inr (.inl (some 3))), some (.inl 0), some (.inl 20), some (.inl q), some (.inl cm), some (.inl u), some (.inl wo), some (.inl most), some (.inl o), x10]
def Lk2 (q cm : Int) (x6 x7 x8 x9 x10 : Option av) : List (Option av) := [some (.inr (.inl (some 233))), some (.inr (.inl (some 3))), some (.inl 0), some (.inl 20), some (.inl q), some (.inl cm), x6, x7, x8, x9, x10]
def Lk3 (q : Int) (x5 x6 x7 x8 x9 x10 : Option av) : List (Option av) := [some (.inr (.inl (some 233))), some (.inr (.inl (some 3))), some (.inl 0), some (.inl 20), some (.inl q), x5, x6, x7, x8, x9, x10]
section MBack
variable {scL : Nat} {scX : Nat → Int} {d : Nat} {fi : tF} {al : tL} {P : ot}
theorem mb_o {nr fa : Nat} (hnf : nfo nr fa) {A : tF} {q cm u wo M : Int} (hq : 0 ≤ q ∧ q < 96) (hM : 0 ≤ M ∧ M ≤ 1000) (hcm : 0 ≤ cm ∧ cm ≤ 2) (hu : 0 ≤ u ∧ u ≤ 20) (hwo : wo = 0 ∨ wo = 1) (hA : bdM M A) (hk : ∀ most x9 x10, 0 ≤ most ∧ most ≤ M + 3 → Rc 1 (Call 1 scL scX (d + 1)) (mt 52) P 244 scL scX 147 (Lk2 q cm (some (.inl u)) (some (.inl wo)) (some (.inl most)) x9 x10) [] 244 fi (cH nr fa) (cA A) al) :
    ∀ (n : Nat) (o most : Int) (x10 : Option av), 0 ≤ o → o + n = 4 → 0 ≤ most ∧ most ≤ M + 3 → Rc 1 (Call 1 scL scX (d + 1)) (mt 52) P 244 scL scX 83 (Lk q cm u wo most o x10) [] 244 fi (cH nr fa) (cA A) al := by
  intro n
  induction n with
  | zero =>
    intro o most x10 ho hn hm
    refine rc_go [147] 12 ?_
    refine And.intro ⟨hq.1, by show q < 192; omega⟩ ?_
    exact And.intro ⟨rg_sm (by omega) (by omega), show rg 3 from ⟨by decide, by decide⟩⟩ (And.intro (fun _ => hk _ _ _ hm) (fun h => absurd (show (3 : Int) < o by omega) h))
  | succ n ih =>
    intro o most x10 ho hn hm
    have bm := gM_b (a := o) (x := u) ⟨ho, by omega⟩ hu
    have eg := gM_min (o := o) (up := u)
    have hx : 0 ≤ (if u < o * 1 then u else o * 1) ∧ (if u < o * 1 then u else o * 1) ≤ 3 ∧ (if u < o * 1 then u else o * 1) ≤ u := by rw [eg]; exact bm
    have bc := gC_b (a := 20) (b := u - (if u < o * 1 then u else o * 1) + cm) (by omega) (by decide)
    have hxw : 0 ≤ (if u < o * 1 then u else o * 1) * wo ∧ (if u < o * 1 then u else o * 1) * wo ≤ 3 := by
      rcases hwo with rfl | rfl <;> omega
    refine rc_go [83] 60 ?_
    refine And.intro ⟨hq.1, by show q < 192; omega⟩ ?_
    refine And.intro ⟨rg_sm (by omega) (by omega), show rg 3 from ⟨by decide, by decide⟩⟩ (And.intro (fun h => absurd (show (3 : Int) < o from h) (by omega)) (fun _ => ?_))
    refine And.intro ⟨by decide, by decide⟩ (And.intro ⟨rg_sm (by omega) (by omega), rg_sm (x := o * 1) (by omega) (by omega)⟩ ?_)
    refine And.intro ⟨⟨by decide, by decide⟩, rg_sm (x := u - (if u < o * 1 then u else o * 1) + cm) (by omega) (by omega)⟩ ?_
    rcases hnf with ⟨rfl, rfl⟩ | ⟨rfl, rfl⟩
    · have bA := hA.2 (gC 20 (u - (if u < o * 1 then u else o * 1) + cm)).toNat
      refine And.intro ⟨bc.1, by show gC 20 (u - (if u < o * 1 then u else o * 1) + cm) < 1681; omega⟩ ?_
      refine And.intro ⟨rg_sm (by omega) (by omega), rg_sm (x := (if u < o * 1 then u else o * 1) * wo + A 235 (gC 20 (u - (if u < o * 1 then u else o * 1) + cm)).toNat) (by omega) (by omega)⟩ ?_
      refine ih (o + 1) (if most < (if u < o * 1 then u else o * 1) * wo + A 235 (gC 20 (u - (if u < o * 1 then u else o * 1) + cm)).toNat then (if u < o * 1 then u else o * 1) * wo + A 235 (gC 20 (u - (if u < o * 1 then u else o * 1) + cm)).toNat else most) _ (by omega) (by omega) ?_
      have hs : 0 ≤ (if u < o * 1 then u else o * 1) * wo + A 235 (gC 20 (u - (if u < o * 1 then u else o * 1) + cm)).toNat ∧ (if u < o * 1 then u else o * 1) * wo + A 235 (gC 20 (u - (if u < o * 1 then u else o * 1) + cm)).toNat ≤ M + 3 := by omega
      generalize (if u < o * 1 then u else o * 1) * wo + A 235 (gC 20 (u - (if u < o * 1 then u else o * 1) + cm)).toNat = t at *
      split <;> omega
    · have bA := hA.1 (gC 20 (u - (if u < o * 1 then u else o * 1) + cm)).toNat
      refine And.intro ⟨bc.1, by show gC 20 (u - (if u < o * 1 then u else o * 1) + cm) < 1681; omega⟩ ?_
      refine And.intro ⟨rg_sm (by omega) (by omega), rg_sm (x := (if u < o * 1 then u else o * 1) * wo + A 234 (gC 20 (u - (if u < o * 1 then u else o * 1) + cm)).toNat) (by omega) (by omega)⟩ ?_
      refine ih (o + 1) (if most < (if u < o * 1 then u else o * 1) * wo + A 234 (gC 20 (u - (if u < o * 1 then u else o * 1) + cm)).toNat then (if u < o * 1 then u else o * 1) * wo + A 234 (gC 20 (u - (if u < o * 1 then u else o * 1) + cm)).toNat else most) _ (by omega) (by omega) ?_
      have hs : 0 ≤ (if u < o * 1 then u else o * 1) * wo + A 234 (gC 20 (u - (if u < o * 1 then u else o * 1) + cm)).toNat ∧ (if u < o * 1 then u else o * 1) * wo + A 234 (gC 20 (u - (if u < o * 1 then u else o * 1) + cm)).toNat ≤ M + 3 := by omega
      generalize (if u < o * 1 then u else o * 1) * wo + A 234 (gC 20 (u - (if u < o * 1 then u else o * 1) + cm)).toNat = t at *
      split <;> omega
end MBack
