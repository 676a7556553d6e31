/-! the lower mill alone free: both values are one, both walks are one; the reference's followsLower -/
theorem iB_iC {F : Int → Int} {a : Int} (h : -1 < F 0) : iB F a 4 0 (-1) 0 = ((iC F 4 0 (-1) 0).1, 4 * a + (iC F 4 0 (-1) 0).2) := by
  have e1 : iB F a 4 0 (-1) 0 = iB F a 3 (0 + 1) (F 0) (4 * a + 0) := by
    show (if -1 < F 0 then iB F a 3 (0 + 1) (F 0) (4 * a + 0) else iB F a 3 (0 + 1) (-1) 0) = _
    rw [if_pos h]
  have e2 : iC F 4 0 (-1) 0 = iC F 3 (0 + 1) (F 0) 0 := by
    show (if -1 < F 0 then iC F 3 (0 + 1) (F 0) 0 else iC F 3 (0 + 1) (-1) 0) = _
    rw [if_pos h]
  rw [e1, e2, iC_iB]
theorem uWk_0 {mk up lo : Int} : uWk 0 mk up lo = 0 := by simp only [uWk, ite_self]
theorem lW_1 {lo y : Int} : y * lWk 1 lo = if lo < 5 then 0 else y := by
  unfold lWk
  split
  · rw [Int.mul_zero]
  · rw [Int.mul_one]
section LEq
variable {p : Nat → Int} {mk : Int}
theorem low_gJ (hp : ∀ k, 0 ≤ p k ∧ p k ≤ 3) (n : Nat) (hn : n < 96) (ih : ∀ l, 0 ≤ l ∧ l ≤ 20 → cW 0 1 mk (oA 1 p) (oB 1 p) 1 4 n (gX (uS p (96 - n))) (gY l (prv (uT p) (96 - n))) = LV (uT p) n l) {l : Int} (hl : 0 ≤ l ∧ l ≤ 20) :
    gJ 0 1 mk (oA 1 p) (oB 1 p) 1 4 (cW 0 1 mk (oA 1 p) (oB 1 p) 1 4 n) (95 - n) (gX (uS p (95 - n))) (gY l (prv (uT p) (95 - n))) = (LV (uT p) (n + 1) l, 4 * p (95 - n) + LK (uT p) n l) := by
  have bu := gX_b (uS_b hp (95 - n))
  have bp := prv_b (uT_b hp) (95 - n)
  have by' := gY_b hl bp
  have eq : (95 : Int) - (n : Int) = ((95 - n : Nat) : Int) := by omega
  have eA : oA 1 p (95 - (n : Int)) = p (95 - n) := by
    show p (95 - (n : Int)).toNat = _
    rw [eq]; rfl
  unfold gJ
  rw [jA_iA bu.1 by'.1, eA]
  show iB (fun j => gQ (uWk 0 mk (gX (uS p (95 - n))) (gY l (prv (uT p) (95 - n)))) (lWk 1 (gY l (prv (uT p) (95 - n)))) (cmB (95 - n)) (cW 0 1 mk (oA 1 p) (oB 1 p) 1 4 n) (gX (uS p (95 - n))) (gY l (prv (uT p) (95 - n))) (gM (p (95 - n)) (gX (uS p (95 - n)))) (gM j (gY l (prv (uT p) (95 - n))))) (p (95 - n)) 4 0 (-1) 0 = _
  have key : ∀ j : Int, 0 ≤ j → j < 0 + (4 : Nat) → gQ (uWk 0 mk (gX (uS p (95 - n))) (gY l (prv (uT p) (95 - n)))) (lWk 1 (gY l (prv (uT p) (95 - n)))) (cmB (95 - n)) (cW 0 1 mk (oA 1 p) (oB 1 p) 1 4 n) (gX (uS p (95 - n))) (gY l (prv (uT p) (95 - n))) (gM (p (95 - n)) (gX (uS p (95 - n)))) (gM j (gY l (prv (uT p) (95 - n)))) = lF (LV (uT p) n) (prv (uT p) (95 - n)) l j := by
    intro j j0 j3
    have bn := gM_b (a := j) ⟨j0, by omega⟩ by'
    unfold gQ lF
    rw [uWk_0, Int.mul_zero, lW_1, Int.zero_add]
    congr 1
    cases n with
    | zero => rfl
    | succ n =>
      have ec : cmB (95 - ((n + 1 : Nat) : Int)) = 2 := by
        unfold cmB
        rw [if_pos (by omega)]
      rw [ec, gC_X, ← ih _ ⟨by omega, by omega⟩]
      have e1 : 96 - (n + 1) = (95 - (n + 1)) + 1 := by omega
      rw [e1]
      rfl
  rw [iB_cg 4 0 (-1) 0 key]
  have h0 : -1 < lF (LV (uT p) n) (prv (uT p) (95 - n)) l 0 := by
    have bn := gM_b (a := 0) ⟨by decide, by decide⟩ by'
    have bl := LV_b (uT_b hp) n (gY l (prv (uT p) (95 - n)) - gM 0 (gY l (prv (uT p) (95 - n)))) ⟨by omega, by omega⟩
    unfold lF
    split <;> omega
  rw [iB_iC h0]
  rfl
theorem low_V (hp : ∀ k, 0 ≤ p k ∧ p k ≤ 3) : ∀ (n : Nat), n ≤ 96 → ∀ l, 0 ≤ l ∧ l ≤ 20 → cW 0 1 mk (oA 1 p) (oB 1 p) 1 4 n (gX (uS p (96 - n))) (gY l (prv (uT p) (96 - n))) = LV (uT p) n l
  | 0, _, _, _ => rfl
  | n + 1, hn, l, hl => by
    have h := low_gJ (mk := mk) hp n (by omega) (low_V hp n (by omega)) hl
    rw [show 96 - (n + 1) = 95 - n by omega]
    show (gJ 0 1 mk (oA 1 p) (oB 1 p) 1 4 (cW 0 1 mk (oA 1 p) (oB 1 p) 1 4 n) (95 - n) (gX (uS p (95 - n))) (gY l (prv (uT p) (95 - n)))).1 = _
    rw [h]
theorem low_K (hp : ∀ k, 0 ≤ p k ∧ p k ≤ 3) (n : Nat) (hn : n < 96) {l : Int} (hl : 0 ≤ l ∧ l ≤ 20) : cK 0 1 mk (oA 1 p) (oB 1 p) 1 4 n (gX (uS p (95 - n))) (gY l (prv (uT p) (95 - n))) = 4 * p (95 - n) + LK (uT p) n l := by
  have h := low_gJ (mk := mk) hp n hn (low_V hp n (by omega)) hl
  show (gJ 0 1 mk (oA 1 p) (oB 1 p) 1 4 (cW 0 1 mk (oA 1 p) (oB 1 p) 1 4 n) (95 - n) (gX (uS p (95 - n))) (gY l (prv (uT p) (95 - n)))).2 = _
  rw [h]
theorem LK_b {T : Nat → Int} (hT : ∀ k, 0 ≤ T k ∧ T k ≤ 3) {n : Nat} {l : Int} (hl : 0 ≤ l ∧ l ≤ 20) : 0 ≤ LK T n l ∧ LK T n l ≤ 3 := by
  have by' := gY_b hl (prv_b hT (95 - n))
  have hF : ∀ j, 0 ≤ j → j ≤ 3 → -1 ≤ lF (LV T n) (prv T (95 - n)) l j ∧ lF (LV T n) (prv T (95 - n)) l j ≤ 3 * ((n : Int) + 1) := fun j j0 j3 => by
    have bn := gM_b (a := j) ⟨j0, j3⟩ by'
    have ih := LV_b hT n (gY l (prv T (95 - n)) - gM j (gY l (prv T (95 - n)))) ⟨by omega, by omega⟩
    unfold lF
    split <;> omega
  have h := (iC_b 4 0 (-1) 0 (by decide) (by decide) hF ⟨by decide, by omega⟩).2
  unfold LK
  rcases h with e | e
  · omega
  · exact e
/-- where the lower pond stands along the reference's lower choices -/
def lS (T : Nat → Int) : Nat → Int
  | 0 => 10
  | q + 1 => gY (lS T q) (prv T q) - gM (LK T (95 - q) (lS T q)) (gY (lS T q) (prv T q))
theorem lS_b {T : Nat → Int} (hT : ∀ k, 0 ≤ T k ∧ T k ≤ 3) : ∀ q, 0 ≤ lS T q ∧ lS T q ≤ 20
  | 0 => by
    show (0 : Int) ≤ 10 ∧ (10 : Int) ≤ 20
    decide
  | q + 1 => by
    have ih := lS_b hT q
    have by' := gY_b ih (prv_b hT q)
    have bn := gM_b (LK_b hT (n := 95 - q) ih) by'
    show 0 ≤ gY (lS T q) (prv T q) - gM (LK T (95 - q) (lS T q)) (gY (lS T q) (prv T q)) ∧ gY (lS T q) (prv T q) - gM (LK T (95 - q) (lS T q)) (gY (lS T q) (prv T q)) ≤ 20
    omega
theorem low_walk (hp : ∀ k, 0 ≤ p k ∧ p k ≤ 3) : ∀ q, q < 96 → (cSt (cK 0 1 mk (oA 1 p) (oB 1 p) 1 4) q).1 = gX (uS p q) ∧ (cSt (cK 0 1 mk (oA 1 p) (oB 1 p) 1 4) q).2 = gY (lS (uT p) q) (prv (uT p) q) ∧ cPk (cK 0 1 mk (oA 1 p) (oB 1 p) 1 4) q = 4 * p q + LK (uT p) (95 - q) (lS (uT p) q) := by
  have pk : ∀ q, q < 96 → (cSt (cK 0 1 mk (oA 1 p) (oB 1 p) 1 4) q).1 = gX (uS p q) → (cSt (cK 0 1 mk (oA 1 p) (oB 1 p) 1 4) q).2 = gY (lS (uT p) q) (prv (uT p) q) → cPk (cK 0 1 mk (oA 1 p) (oB 1 p) 1 4) q = 4 * p q + LK (uT p) (95 - q) (lS (uT p) q) := by
    intro q hq h1 h2
    have h := low_K (mk := mk) hp (95 - q) (by omega) (lS_b (uT_b hp) q)
    rw [show 95 - (95 - q) = q by omega] at h
    unfold cPk
    rw [h1, h2]
    exact h
  intro q
  induction q with
  | zero =>
    intro hq
    exact ⟨rfl, rfl, pk 0 hq rfl rfl⟩
  | succ q ih =>
    intro hq
    obtain ⟨h1, h2, h3⟩ := ih (by omega)
    have bK := LK_b (uT_b hp) (n := 95 - q) (lS_b (uT_b hp) q)
    have bp := hp q
    have d1 : (4 * p q + LK (uT p) (95 - q) (lS (uT p) q)) / 4 = p q := by omega
    have d2 : (4 * p q + LK (uT p) (95 - q) (lS (uT p) q)) % 4 = LK (uT p) (95 - q) (lS (uT p) q) := by omega
    have ec : cmB (q : Int) = 2 := by
      unfold cmB
      rw [if_pos (by omega)]
    have e1 : (cSt (cK 0 1 mk (oA 1 p) (oB 1 p) 1 4) (q + 1)).1 = gX (uS p (q + 1)) := by
      show gC 20 ((cSt (cK 0 1 mk (oA 1 p) (oB 1 p) 1 4) q).1 - gM (cPk (cK 0 1 mk (oA 1 p) (oB 1 p) 1 4) q / 4) (cSt (cK 0 1 mk (oA 1 p) (oB 1 p) 1 4) q).1 + cmB q) = _
      rw [h1, h3, d1, ec, gC_X]
      rfl
    have e2 : (cSt (cK 0 1 mk (oA 1 p) (oB 1 p) 1 4) (q + 1)).2 = gY (lS (uT p) (q + 1)) (prv (uT p) (q + 1)) := by
      show gC 20 ((cSt (cK 0 1 mk (oA 1 p) (oB 1 p) 1 4) q).2 - gM (cPk (cK 0 1 mk (oA 1 p) (oB 1 p) 1 4) q % 4) (cSt (cK 0 1 mk (oA 1 p) (oB 1 p) 1 4) q).2 + gM (cPk (cK 0 1 mk (oA 1 p) (oB 1 p) 1 4) q / 4) (cSt (cK 0 1 mk (oA 1 p) (oB 1 p) 1 4) q).1) = gY (gY (lS (uT p) q) (prv (uT p) q) - gM (LK (uT p) (95 - q) (lS (uT p) q)) (gY (lS (uT p) q) (prv (uT p) q))) (gM (p q) (gX (uS p q)))
      rw [h1, h2, h3, d1, d2, gC_mn, gY_mn (gY (lS (uT p) q) (prv (uT p) q) - gM (LK (uT p) (95 - q) (lS (uT p) q)) (gY (lS (uT p) q) (prv (uT p) q)))]
      omega
    exact ⟨e1, e2, pk (q + 1) hq e1 e2⟩
/-- the lower one's value, from the start -/
theorem low_val (hp : ∀ k, 0 ≤ p k ∧ p k ≤ 3) : cW 0 1 mk (oA 1 p) (oB 1 p) 1 4 96 12 10 = LV (uT p) 96 10 := low_V hp 96 (by decide) 10 ⟨by decide, by decide⟩
end LEq
def Lh (l q : Int) (x3 : Option av) : List (Option av) := [some (.inr (.inl (some 54))), some (.inl l), some (.inl q), x3]
section FL
variable {scL : Nat} {scX : Nat → Int} {d N : Nat} {fi : tF} {fr : tR} {al : tL} {P : ot}
theorem fl_1 {q l : Int} {A : tF} {T : Nat → Int} (hT : ∀ k, 0 ≤ T k ∧ T k ≤ 3) (hA : ∀ k, k < 96 → A 129 k = T k) (hq : 0 ≤ q ∧ q < 96) (hl : 0 ≤ l ∧ l ≤ 20) {x3 : Option av}
    (hk : Rc 1 (Call 1 scL scX (d + 1)) (mt 168) P N scL scX 44 (Lh l q (some (.inl (gY l (prv T q.toNat))))) [] N fi (rF fr) (rA A) al) :
    Rc 1 (Call 1 scL scX (d + 1)) (mt 168) P N scL scX 10 (Lh l q x3) [] N fi (rF fr) (rA A) al := by
  unfold prv at hk
  refine rc_go [44] 40 ?_
  refine And.intro ⟨rg_sm (by omega) (by omega), ⟨by decide, by decide⟩⟩ (And.intro (fun h => absurd (show (96 : Int) ≤ q from h) (by omega)) (fun _ => ?_))
  refine And.intro (fun hne => And.intro (rg_sm (by omega) (by omega)) (And.intro ⟨by decide, by decide⟩ ?_)) (fun he => ?_)
  · have hne : q ≠ 0 := hne
    rw [if_neg (by omega), ← hA (q.toNat - 1) (by omega), show q.toNat - 1 = (q - 1).toNat by omega] at hk
    have hb := hT (q.toNat - 1)
    rw [← hA (q.toNat - 1) (by omega), show q.toNat - 1 = (q - 1).toNat by omega] at hb
    refine And.intro ⟨by show 0 ≤ q - 1; omega, by show q - 1 < 96; omega⟩ ?_
    refine And.intro ⟨by decide, by decide⟩ ?_
    refine Exists.intro N (And.intro ⟨Nat.le_refl _, Nat.le_refl _⟩ (c_less (a := l + A 129 (q - 1).toNat) (b := 20) (rg_sm (by omega) (by omega)) (rg_sm (by omega) (by omega)) ?_))
    exact hk
  · have he : q = 0 := he
    rw [if_pos (by omega)] at hk
    refine And.intro ⟨by decide, by decide⟩ ?_
    refine Exists.intro N (And.intro ⟨Nat.le_refl _, Nat.le_refl _⟩ (c_less (a := l + 0) (b := 20) (rg_sm (by omega) (by omega)) (rg_sm (by omega) (by omega)) ?_))
    exact hk
theorem fl_2 {q l y b : Int} {A : tF} (hq : 0 ≤ q ∧ q < 96) (hl : 0 ≤ l ∧ l ≤ 20) (hy : 0 ≤ y ∧ y ≤ 20) (hb : 0 ≤ b ∧ b ≤ 3) (hA : A (132 + 1 + q.toNat) l.toNat = b)
    (hk : Rc 1 (Call 1 scL scX (d + 1)) (mt 168) P N scL scX 10 (Lh (y - gM b y) (q + 1) (some (.inl y))) [] N fi (rF fr) (rA (up2 A 124 q.toNat b)) al) :
    Rc 1 (Call 1 scL scX (d + 1)) (mt 168) P N scL scX 44 (Lh l q (some (.inl y))) [] N fi (rF fr) (rA A) al := by
  obtain ⟨k1, k2, k3⟩ := lc_row q.toNat (by omega) N
  have eA : rA A (132 + 1 + q.toNat) l.toNat = b := by
    rw [← hA]
    unfold rA
    have e1 : Nat.beq (132 + 1 + q.toNat) 58 = false := by
      cases e : Nat.beq (132 + 1 + q.toNat) 58
      · rfl
      · have := Nat.eq_of_beq_eq_true e
        omega
    have e2 : Nat.beq (132 + 1 + q.toNat) 60 = false := by
      cases e : Nat.beq (132 + 1 + q.toNat) 60
      · rfl
      · have := Nat.eq_of_beq_eq_true e
        omega
    rw [e1, e2]; rfl
  have e124 : up2 (rA A) 124 q.toNat b 124 q.toNat = b := by rw [up2_if, if_pos ⟨rfl, rfl⟩]
  have bm := gM_b hb hy
  rw [← rA_up (by decide) (by decide)] at hk
  refine rc_go [58] 20 ?_
  refine And.intro ⟨by decide, by decide⟩ (And.intro ⟨hq.1, by show q < 96; omega⟩ ?_)
  refine rc_ial (np := 59) rfl rfl k3 k1 (by rw [k2]; exact ⟨hl.1, by show l < 41; omega⟩) ?_
  rw [eA]
  have fin : Rc 1 (Call 1 scL scX (d + 1)) (mt 168) P N scL scX 69 (Lh l q (some (.inl y))) [.inl (up2 (rA A) 124 q.toNat b 124 q.toNat), .inl y] N fi (rF fr) (up2 (rA A) 124 q.toNat b) al := by
    rw [e124, rA_up (by decide) (by decide)]
    rw [rA_up (by decide) (by decide)] at hk
    refine rc_go [10] 40 ?_
    refine And.intro ⟨by decide, by decide⟩ ?_
    refine Exists.intro N (And.intro ⟨Nat.le_refl _, Nat.le_refl _⟩ (c_less (a := b * 1) (b := y) (rg_sm (by omega) (by omega)) (rg_sm (by omega) (by omega)) ?_))
    exact hk
  refine rc_go [69] 40 ?_
  refine And.intro ⟨hq.1, by show q < 96; omega⟩ ?_
  refine And.intro ⟨by decide, by decide⟩ (And.intro ⟨hq.1, by show q < 96; omega⟩ ?_)
  exact fin
/-- the lower row of bestPlan behind q quarters -/
def blw (T : Nat → Int) (a0 : tF) (q : Nat) (A : tF) : Prop := (∀ o, o ≠ 124 → A o = a0 o) ∧ ∀ k, k < q → A 124 k = LK T (95 - k) (lS T k)
theorem fl_l {T : Nat → Int} {a0 : tF} (hT : ∀ k, 0 ≤ T k ∧ T k ≤ 3) (h129 : ∀ k, k < 96 → a0 129 k = T k) (hc : ∀ p l : Int, 0 ≤ p → p < 96 → 0 ≤ l → l ≤ 20 → a0 (132 + 1 + p.toNat) l.toNat = LK T (95 - p).toNat l) (hP : ∀ A, blw T a0 96 A → P (.inl none) fi (rF fr) (rA A) al) :
    ∀ (n q : Nat) (A : tF) (x3 : Option av), q + n = 96 → blw T a0 q A → Rc 1 (Call 1 scL scX (d + 1)) (mt 168) P N scL scX 10 (Lh (lS T q) q x3) [] N fi (rF fr) (rA A) al := by
  intro n
  induction n with
  | zero =>
    intro q A x3 hn hA
    have e : q = 96 := by omega
    subst e
    refine rc_go [] 10 ?_
    exact And.intro ⟨⟨by decide, by decide⟩, ⟨by decide, by decide⟩⟩ (And.intro (fun _ => And.intro rfl (hP A hA)) (fun h => absurd (by decide : (96 : Int) ≤ 96) h))
  | succ n ih =>
    intro q A x3 hn hA
    have hq2 : 0 ≤ (q : Int) ∧ (q : Int) < 96 := ⟨by omega, by omega⟩
    have bl := lS_b hT q
    have by' := gY_b bl (prv_b hT q)
    refine fl_1 hT (fun k hk => by rw [hA.1 129 (by decide)]; exact h129 k hk) hq2 bl ?_
    refine fl_2 (b := LK T (95 - q) (lS T q)) hq2 bl by' (LK_b hT bl) ?_ ?_
    · rw [hA.1 _ (by omega), hc q _ (by omega) (by omega) bl.1 bl.2, show (95 - (q : Int)).toNat = 95 - q by omega]
    · refine ih (q + 1) _ _ (by omega) ⟨fun o ho => ?_, fun k hk => ?_⟩
      · rw [up2_row ho]
        exact hA.1 o ho
      · rw [up2_if]
        by_cases e : k = q
        · subst e
          rw [if_pos ⟨rfl, rfl⟩]
        · rw [if_neg (fun z => e z.2)]
          exact hA.2 k (by omega)
theorem c_followsLower {T : Nat → Int} {ai : tF} (hT : ∀ k, 0 ≤ T k ∧ T k ≤ 3) (h129 : ∀ k, k < 96 → ai 129 k = T k) (hc : ∀ p l : Int, 0 ≤ p → p < 96 → 0 ≤ l → l ≤ 20 → ai (132 + 1 + p.toNat) l.toNat = LK T (95 - p).toNat l) (hP : ∀ A, blw T ai 96 A → P (.inl none) fi (rF fr) (rA A) al) : Call 1 scL scX (d + 2) 168 [.inr (.inl (some 54))] N fi (rF fr) (rA ai) al N P := by
  refine ⟨⟨Nat.le_refl _, rfl⟩, rc_go [10] 20 ?_⟩
  refine And.intro ⟨by decide, by decide⟩ ?_
  exact fl_l hT h129 hc hP 96 0 ai none (by decide) ⟨fun _ _ => rfl, fun k hk => by omega⟩
end FL
