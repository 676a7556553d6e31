/-! laysLower: the lower mill's rounds -/
def iC (F : Int → Int) : Nat → Int → Int → Int → Int × Int
  | 0, _, best, w => (best, w)
  | n + 1, b, best, w => if best < F b then iC F n (b + 1) (F b) b else iC F n (b + 1) best w
theorem iC_iB {F : Int → Int} {a : Int} : ∀ (n : Nat) (b best w : Int), iB F a n b best (4 * a + w) = ((iC F n b best w).1, 4 * a + (iC F n b best w).2)
  | 0, _, _, _ => rfl
  | n + 1, b, best, w => by
    unfold iB iC
    split
    · exact iC_iB n (b + 1) (F b) b
    · exact iC_iB n (b + 1) best w
theorem iC_cg {F F' : Int → Int} : ∀ (n : Nat) (b best w : Int), (∀ j, b ≤ j → j < b + n → F j = F' j) → iC F n b best w = iC F' n b best w
  | 0, _, _, _, _ => rfl
  | n + 1, b, best, w, h => by
    unfold iC
    rw [h b (by omega) (by omega)]
    split
    · exact iC_cg n _ _ _ (fun j h1 h2 => h j (by omega) (by omega))
    · exact iC_cg n _ _ _ (fun j h1 h2 => h j (by omega) (by omega))
theorem iC_w {F : Int → Int} {n : Nat} {w w' : Int} (h : -1 < F 0) : iC F (n + 1) 0 (-1) w = iC F (n + 1) 0 (-1) w' := by
  unfold iC
  rw [if_pos h, if_pos h]
theorem iC_b {F : Int → Int} {M : Int} : ∀ (n : Nat) (b best w : Int), 0 ≤ b → b + n = 4 → (∀ j, 0 ≤ j → j ≤ 3 → -1 ≤ F j ∧ F j ≤ M) → -1 ≤ best ∧ best ≤ M → (-1 ≤ (iC F n b best w).1 ∧ (iC F n b best w).1 ≤ M) ∧ ((iC F n b best w).2 = w ∨ (0 ≤ (iC F n b best w).2 ∧ (iC F n b best w).2 ≤ 3))
  | 0, _, _, _, _, _, _, h => ⟨h, Or.inl rfl⟩
  | n + 1, b, best, w, h0, hn, hF, h => by
    unfold iC
    split
    · have := iC_b n (b + 1) (F b) b (by omega) (by omega) hF (hF b h0 (by omega))
      refine ⟨this.1, Or.inr ?_⟩
      rcases this.2 with e | e
      · omega
      · exact e
    · exact iC_b n (b + 1) best w (by omega) (by omega) hF h
theorem iC_ge {F : Int → Int} : ∀ (n : Nat) (b best w : Int), best ≤ (iC F n b best w).1 ∧ ∀ j, b ≤ j → j < b + n → F j ≤ (iC F n b best w).1
  | 0, b, best, w => ⟨Int.le_refl _, fun j h1 h2 => by omega⟩
  | n + 1, b, best, w => by
    unfold iC
    split
    · rename_i h
      obtain ⟨h1, h2⟩ := iC_ge (F := F) n (b + 1) (F b) b
      refine ⟨by omega, fun j q1 q2 => ?_⟩
      by_cases e : j = b
      · subst e
        exact h1
      · exact h2 j (by omega) (by omega)
    · rename_i h
      obtain ⟨h1, h2⟩ := iC_ge (F := F) n (b + 1) best w
      refine ⟨h1, fun j q1 q2 => ?_⟩
      by_cases e : j = b
      · subst e
        omega
      · exact h2 j (by omega) (by omega)
/-- what went through from above a quarter ago -/
def prv (T : Nat → Int) (q : Nat) : Int := if q = 0 then 0 else T (q - 1)
def lF (V : Int → Int) (p l b : Int) : Int := (if gY l p < 5 then 0 else gM b (gY l p)) + V (gY l p - gM b (gY l p))
def LV (T : Nat → Int) : Nat → Int → Int
  | 0, _ => 0
  | n + 1, l => (iC (lF (LV T n) (prv T (95 - n)) l) 4 0 (-1) 0).1
def LK (T : Nat → Int) (n : Nat) (l : Int) : Int := (iC (lF (LV T n) (prv T (95 - n)) l) 4 0 (-1) 0).2
theorem prv_b {T : Nat → Int} (hT : ∀ k, 0 ≤ T k ∧ T k ≤ 3) (q : Nat) : 0 ≤ prv T q ∧ prv T q ≤ 3 := by
  unfold prv
  split
  · decide
  · exact hT _
theorem LV_b {T : Nat → Int} (hT : ∀ k, 0 ≤ T k ∧ T k ≤ 3) : ∀ (n : Nat) (l : Int), 0 ≤ l ∧ l ≤ 20 → 0 ≤ LV T n l ∧ LV T n l ≤ 3 * n
  | 0, _, _ => ⟨Int.le_refl _, Int.le_refl _⟩
  | n + 1, l, hl => by
    have bp := prv_b hT (95 - n)
    have by' := gY_b hl bp
    have hF : ∀ j, 0 ≤ j → j ≤ 3 → 0 ≤ lF (LV T n) (prv T (95 - n)) l j ∧ lF (LV T n) (prv T (95 - n)) l j ≤ 3 * ((n : Int) + 1) := fun j j0 j3 => by
      have bn := gM_b (a := j) ⟨j0, j3⟩ by'
      have ih := LV_b hT n (gY l (prv T (95 - n)) - gM j (gY l (prv T (95 - n)))) ⟨by omega, by omega⟩
      unfold lF
      split <;> omega
    have h1 := (iC_b 4 0 (-1) 0 (by decide) (by decide) (fun j a b => ⟨by have := (hF j a b).1; omega, (hF j a b).2⟩) ⟨by decide, by omega⟩).1
    have h2 := (iC_ge (F := lF (LV T n) (prv T (95 - n)) l) 4 0 (-1) 0).2 0 (by decide) (by decide)
    have h3 := (hF 0 (by decide) (by decide)).1
    unfold LV
    omega
theorem rc_ias {md d y : Nat} {P : ot} {Nf scL : Nat} {scX : Nat → Int} {pc np : Nat} {L : List (Option av)} {S : List av} {z j : Int} {o N : Nat} {fi : tF} {fr : tR} {ai : tF} {al : tL} (hp : Nat.ble (mt y).2.1 pc = false) (hc : (mt y).1 pc = (.iastore, np, 0, 0, 0, 0, [])) (hK : isK md o 0 N = true) (hj : inb j (shp md o).2)
    (h : Rc md (Call md scL scX d) (mt y) P Nf scL scX np L S N fi fr (up2 ai o j.toNat z) al) : Rc md (Call md scL scX d) (mt y) P Nf scL scX pc L (.inl z :: .inl j :: .inr (.inl (some o)) :: S) N fi fr ai al := by
  refine (Rc_clo (Call_mono md scL scX d)).1 _ _ _ _ _ _ _ _ ?_
  unfold stp
  rw [hp, hc]
  show (match isK md o 0 N with
    | true => inb j (shp md o).2 ∧ Rc md (Call md scL scX d) (mt y) P Nf scL scX np L S N fi fr (up2 ai o j.toNat z) al
    | false => False)
  rw [hK]
  exact ⟨hj, h⟩
theorem rc_ial {md d y : Nat} {P : ot} {Nf scL : Nat} {scX : Nat → Int} {pc np : Nat} {L : List (Option av)} {S : List av} {j : Int} {o N : Nat} {fi : tF} {fr : tR} {ai : tF} {al : tL} (hp : Nat.ble (mt y).2.1 pc = false) (hc : (mt y).1 pc = (.iaload, np, 0, 0, 0, 0, [])) (ho : Nat.beq o 999999 = false) (hK : isK md o 0 N = true) (hj : inb j (shp md o).2)
    (h : Rc md (Call md scL scX d) (mt y) P Nf scL scX np L (.inl (ai o j.toNat) :: S) N fi fr ai al) : Rc md (Call md scL scX d) (mt y) P Nf scL scX pc L (.inl j :: .inr (.inl (some o)) :: S) N fi fr ai al := by
  refine (Rc_clo (Call_mono md scL scX d)).1 _ _ _ _ _ _ _ _ ?_
  unfold stp
  rw [hp, hc]
  show (match Nat.beq o 999999 with
    | true => inb j scL ∧ Rc md (Call md scL scX d) (mt y) P Nf scL scX np L (.inl (scX j.toNat) :: S) N fi fr ai al
    | false => (match isK md o 0 N with
      | true => inb j (shp md o).2 ∧ Rc md (Call md scL scX d) (mt y) P Nf scL scX np L (.inl (ai o j.toNat) :: S) N fi fr ai al
      | false => False))
  rw [ho]
  show (match isK md o 0 N with
      | true => inb j (shp md o).2 ∧ Rc md (Call md scL scX d) (mt y) P Nf scL scX np L (.inl (ai o j.toNat) :: S) N fi fr ai al
      | false => False)
  rw [hK]
  exact ⟨hj, h⟩
theorem lc_row : ∀ k, k < 96 → ∀ N : Nat, isK 1 (132 + 1 + k) 0 N = true ∧ (shp 1 (132 + 1 + k)).2 = 41 ∧ Nat.beq (132 + 1 + k) 999999 = false := by
  have h : ∀ k, k < 96 → (Nat.ble 233 (132 + 1 + k) = false ∧ Nat.beq (shp 1 (132 + 1 + k)).1 0 = true) ∧ (shp 1 (132 + 1 + k)).2 = 41 ∧ Nat.beq (132 + 1 + k) 999999 = false := by decide +kernel
  intro k hk N
  obtain ⟨⟨h1, h2⟩, h3⟩ := h k hk
  refine ⟨?_, h3⟩
  unfold isK isL
  rw [h1, h2]
  rfl
def lG (R : Nat → Int) (y b : Int) : Int := (if y < 5 then 0 else gM b y) + R (y - gM b y).toNat
section Low2
variable {scL : Nat} {scX : Nat → Int} {d N : Nat} {fi : tF} {fr : tR} {al : tL} {P : ot} {cl u : Int}
theorem l3_b1 {q l y best b : Int} {A : tF} (hq : 0 ≤ q ∧ q < 96) (hy : 0 ≤ y ∧ y ≤ 20) (hb : 0 ≤ b ∧ b ≤ 3) {x8 x9 : Option av}
    (hk : ∀ x8', Rc 1 (Call 1 scL scX (d + 3)) (mt 167) P N scL scX 225 (Ll cl u q (some (.inl l)) (some (.inl y)) (some (.inl best)) (some (.inl b)) x8' (some (.inl (lG (A 131) y b)))) [] N fi (rF fr) (rA A) al) :
    Rc 1 (Call 1 scL scX (d + 3)) (mt 167) P N scL scX 160 (Ll cl u q (some (.inl l)) (some (.inl y)) (some (.inl best)) (some (.inl b)) x8 x9) [] N fi (rF fr) (rA A) al := by
  have bn := gM_b hb hy
  have hk := hk (some (.inl (gM b y)))
  unfold lG at hk
  refine rc_go [225] 60 ?_
  refine Exists.intro N (And.intro ⟨Nat.le_refl _, Nat.le_refl _⟩ (c_mayOpen (m := 1) (Or.inr rfl) hq.1 hq.2 ?_))
  refine And.intro (fun h => absurd h (by decide)) (fun _ => And.intro ⟨by decide, by decide⟩ (And.intro ⟨by decide, by decide⟩ ?_))
  refine And.intro ⟨rg_sm (by omega) (by omega), ⟨by decide, by decide⟩⟩ (And.intro (fun h => absurd (show (3 : Int) < b from h) (by omega)) (fun _ => ?_))
  refine And.intro ⟨by decide, by decide⟩ ?_
  refine Exists.intro N (And.intro ⟨Nat.le_refl _, Nat.le_refl _⟩ (c_less (a := b * 1) (b := y) (rg_sm (by omega) (by omega)) (rg_sm (by omega) (by omega)) ?_))
  refine And.intro ⟨by decide, by decide⟩ ?_
  refine And.intro ⟨rg_sm (by omega) (by omega), show rg 5 from ⟨by decide, by decide⟩⟩ (And.intro (fun h5 => ?_) (fun h5 => ?_))
  · have h5 : y < 5 := h5
    rw [if_pos h5] at hk
    refine And.intro ⟨by show 0 ≤ y - gM b y; omega, by show y - gM b y < 41; omega⟩ ?_
    exact hk
  · have h5 : ¬ y < 5 := h5
    rw [if_neg h5] at hk
    refine And.intro ⟨by show 0 ≤ y - gM b y; omega, by show y - gM b y < 41; omega⟩ ?_
    exact hk
theorem l3_b {q l y : Int} {ai : tF} (hq : 0 ≤ q ∧ q < 96) (hl : 0 ≤ l ∧ l ≤ 20) (hy : 0 ≤ y ∧ y ≤ 20) (hF : ∀ j, 0 ≤ j → j ≤ 3 → -1 ≤ lG (ai 131) y j ∧ lG (ai 131) y j ≤ 1000000) :
    ∀ (n : Nat) (b best w : Int) (x8 x9 : Option av), 0 ≤ b → b + n = 4 → -1 ≤ best ∧ best ≤ 1000000 →
    (∀ x8' x9', Rc 1 (Call 1 scL scX (d + 3)) (mt 167) P N scL scX 256 (Ll cl u q (some (.inl l)) (some (.inl y)) (some (.inl (iC (lG (ai 131) y) n b best w).1)) (some (.inl 4)) x8' x9') [] N fi (rF fr) (rA (up2 ai (132 + 1 + q.toNat) l.toNat (iC (lG (ai 131) y) n b best w).2)) al) →
    Rc 1 (Call 1 scL scX (d + 3)) (mt 167) P N scL scX 160 (Ll cl u q (some (.inl l)) (some (.inl y)) (some (.inl best)) (some (.inl b)) x8 x9) [] N fi (rF fr) (rA (up2 ai (132 + 1 + q.toNat) l.toNat w)) al := by
  intro n
  induction n with
  | zero =>
    intro b best w x8 x9 hb hn hbest hk
    have e : b = 4 := by omega
    subst e
    refine rc_go [256] 30 ?_
    refine Exists.intro N (And.intro ⟨Nat.le_refl _, Nat.le_refl _⟩ (c_mayOpen (m := 1) (Or.inr rfl) hq.1 hq.2 ?_))
    refine And.intro (fun h => absurd h (by decide)) (fun _ => And.intro ⟨by decide, by decide⟩ (And.intro ⟨by decide, by decide⟩ ?_))
    exact And.intro ⟨⟨by decide, by decide⟩, ⟨by decide, by decide⟩⟩ (And.intro (fun _ => hk x8 x9) (fun h => absurd (by decide : (3 : Int) < 4) h))
  | succ n ih =>
    intro b best w x8 x9 hb hn hbest hk
    have hFb := hF b hb (by omega)
    have e131 : up2 ai (132 + 1 + q.toNat) l.toNat w 131 = ai 131 := up2_row (by omega)
    refine l3_b1 hq hy ⟨hb, by omega⟩ (fun x8' => ?_)
    rw [e131]
    obtain ⟨k1, k2, -⟩ := lc_row q.toNat (by omega) N
    refine rc_go [160, 249] 20 ?_
    refine And.intro ⟨rg_sm (x := lG (ai 131) y b) (by omega) (by omega), rg_sm (x := best) (by omega) (by omega)⟩ (And.intro (fun h => ?_) (fun h => ?_))
    · have h : best < lG (ai 131) y b := h
      unfold iC at hk
      rw [if_pos h] at hk
      refine And.intro ⟨hq.1, by show q < 96; omega⟩ ?_
      refine rc_ias (np := 250) rfl rfl k1 (by rw [k2]; exact ⟨hl.1, by show l < 41; omega⟩) ?_
      rw [rA_up (by omega) (by omega), up2_up2]
      refine rc_go [160] 10 ?_
      exact ih (b + 1) (lG (ai 131) y b) b x8' (some (.inl (lG (ai 131) y b))) (by omega) (by omega) hFb hk
    · have h : ¬ best < lG (ai 131) y b := h
      unfold iC at hk
      rw [if_neg h] at hk
      exact ih (b + 1) best w x8' (some (.inl (lG (ai 131) y b))) (by omega) (by omega) hbest hk
/-- from the head of a round over l to its first opening -/
theorem l3_h {q l : Int} {A : tF} {T : Nat → Int} (hT : ∀ k, 0 ≤ T k ∧ T k ≤ 3) (hA : ∀ k, k < 96 → A 129 k = T k) (hq : 0 ≤ q ∧ q < 96) (hl : 0 ≤ l ∧ l ≤ 20) {x5 x6 x7 x8 x9 : Option av}
    (hk : Rc 1 (Call 1 scL scX (d + 3)) (mt 167) P N scL scX 160 (Ll cl u q (some (.inl l)) (some (.inl (gY l (prv T q.toNat)))) (some (.inl (-1))) (some (.inl 0)) x8 x9) [] N fi (rF fr) (rA A) al) :
    Rc 1 (Call 1 scL scX (d + 3)) (mt 167) P N scL scX 113 (Ll cl u q (some (.inl l)) x5 x6 x7 x8 x9) [] N fi (rF fr) (rA A) al := by
  unfold prv at hk
  refine rc_go [160] 40 ?_
  refine And.intro ⟨by decide, by decide⟩ ?_
  refine And.intro ⟨rg_sm (by omega) (by omega), show rg 20 from ⟨by decide, by decide⟩⟩ (And.intro (fun h => absurd (show (20 : Int) < l from h) (by omega)) (fun _ => ?_))
  refine And.intro (fun hne => And.intro (rg_sm (by omega) (by omega)) (And.intro ⟨by decide, by decide⟩ ?_)) (fun he => ?_)
  · have hne : q ≠ 0 := hne
    rw [if_neg (by omega), ← hA (q.toNat - 1) (by omega), show q.toNat - 1 = (q - 1).toNat by omega] at hk
    have hb := hT (q.toNat - 1)
    rw [← hA (q.toNat - 1) (by omega), show q.toNat - 1 = (q - 1).toNat by omega] at hb
    refine And.intro ⟨by show 0 ≤ q - 1; omega, by show q - 1 < 96; omega⟩ ?_
    refine And.intro ⟨by decide, by decide⟩ ?_
    refine Exists.intro N (And.intro ⟨Nat.le_refl _, Nat.le_refl _⟩ (c_less (a := l + A 129 (q - 1).toNat) (b := 20) (rg_sm (by omega) (by omega)) (rg_sm (by omega) (by omega)) ?_))
    exact hk
  · have he : q = 0 := he
    rw [if_pos (by omega)] at hk
    refine And.intro ⟨by decide, by decide⟩ ?_
    refine Exists.intro N (And.intro ⟨Nat.le_refl _, Nat.le_refl _⟩ (c_less (a := l + 0) (b := 20) (rg_sm (by omega) (by omega)) (rg_sm (by omega) (by omega)) ?_))
    exact hk
end Low2
