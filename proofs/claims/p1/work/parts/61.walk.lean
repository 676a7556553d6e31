/-! the class's walkFirst: along the picks -/
/-- where the walk stands at a quarter: K n up lo is the pick with n quarters behind it -/
def cSt (K : Nat → Int → Int → Int) : Nat → Int × Int
  | 0 => (12, 10)
  | q + 1 => (gC 20 ((cSt K q).1 - gM (K (95 - q) (cSt K q).1 (cSt K q).2 / 4) (cSt K q).1 + cmB q), gC 20 ((cSt K q).2 - gM (K (95 - q) (cSt K q).1 (cSt K q).2 % 4) (cSt K q).2 + gM (K (95 - q) (cSt K q).1 (cSt K q).2 / 4) (cSt K q).1))
def cPk (K : Nat → Int → Int → Int) (q : Nat) : Int := K (95 - q) (cSt K q).1 (cSt K q).2
def uGr (mk up lo x : Int) : Int := if up - (if 0 < lo - mk then lo - mk else 0) < 5 then 0 else x
def lGr (lo y : Int) : Int := if lo < 5 then 0 else y
def cSU (K : Nat → Int → Int → Int) (mk : Int) : Nat → Int
  | 0 => 0
  | q + 1 => cSU K mk q + uGr mk (cSt K q).1 (cSt K q).2 (gM (cPk K q / 4) (cSt K q).1)
def cSL (K : Nat → Int → Int → Int) : Nat → Int
  | 0 => 0
  | q + 1 => cSL K q + lGr (cSt K q).2 (gM (cPk K q % 4) (cSt K q).2)
theorem sh_2 : ∀ k : Nat, k < 16 → b32 (fun p q => p >>> (q &&& 31)) (k : Int) 2 = (k : Int) / 4 ∧ b32 (fun p q => p &&& q) (k : Int) 3 = (k : Int) % 4 := by decide +kernel
theorem sh_2i {p : Int} (h : 0 ≤ p ∧ p ≤ 15) : b32 (fun p q => p >>> (q &&& 31)) p 2 = p / 4 ∧ b32 (fun p q => p &&& q) p 3 = p % 4 := by
  obtain ⟨k, rfl⟩ := Int.eq_ofNat_of_zero_le h.1
  exact sh_2 k (by omega)
def Lf (up lo q : Int) (x4 x5 x6 : Option av) : List (Option av) := [some (.inr (.inl (some 233))), some (.inl up), some (.inl lo), some (.inl q), x4, x5, x6]
theorem cSt_b {K : Nat → Int → Int → Int} (hK : ∀ q : Nat, q < 96 → 0 ≤ cPk K q ∧ cPk K q ≤ 15) : ∀ q, q ≤ 96 → (0 ≤ (cSt K q).1 ∧ (cSt K q).1 ≤ 20) ∧ (0 ≤ (cSt K q).2 ∧ (cSt K q).2 ≤ 20)
  | 0, _ => by
    show ((0 : Int) ≤ 12 ∧ (12 : Int) ≤ 20) ∧ (0 : Int) ≤ 10 ∧ (10 : Int) ≤ 20
    decide
  | q + 1, h => by
    have ih := cSt_b hK q (by omega)
    have hp := hK q (by omega)
    unfold cPk at hp
    have bc := cmB_b (q := (q : Int))
    unfold cSt
    dsimp only
    rw [gC_mn, gC_mn, gM_mn, gM_mn]
    generalize K (95 - q) (cSt K q).1 (cSt K q).2 = p at hp
    omega
theorem up4 {f : tF} {a b a' b' : Int} : up2 (up2 (up2 (up2 f 233 15 a) 233 16 b) 233 15 a') 233 16 b' = up2 (up2 f 233 15 a') 233 16 b' := by
  funext i j
  rw [up2_if, up2_if, up2_if, up2_if, up2_if, up2_if]
  by_cases h1 : i = 233 ∧ j = 16
  · simp only [if_pos h1]
  · by_cases h2 : i = 233 ∧ j = 15
    · simp only [if_neg h1, if_pos h2]
    · simp only [if_neg h1, if_neg h2]
section Walk
variable {scL : Nat} {scX : Nat → Int} {d : Nat} {fi : tF} {fr : tR} {ai : tF} {al : tL} {P : ot} {nr fa : Nat}
set_option maxRecDepth 4096 in
theorem wk_a {q up lo pick : Int} (hq : 0 ≤ q ∧ q < 96) (hu : 0 ≤ up ∧ up ≤ 20) (hl : 0 ≤ lo ∧ lo ≤ 20) (hw : fi 233 13 = 21) (hmk : 0 ≤ fi 233 10 ∧ fi 233 10 ≤ 40) (hp : 0 ≤ pick ∧ pick ≤ 15) (hr : pkR (al 236 (q * 106 + (up * 21 + lo).tdiv 16).toNat) (up * 21 + lo) = pick) {x4 x5 x6 : Option av}
    (hk : Rc 1 (Call 1 scL scX (d + 1)) (mt 49) P 244 scL scX 143 (Lf up lo q (some (.inl pick)) (some (.inl (gM (pick / 4) up))) (some (.inl (gM (pick % 4) lo)))) [.inl (uGr (fi 233 10) up lo (gM (pick / 4) up)), .inl (fi 233 15), .inr (.inl (some 233))] 244 fi (cF nr fa fr) (cA (up2 (up2 ai 243 q.toNat (pick / 4)) 243 (96 + q).toNat (pick % 4))) al) :
    Rc 1 (Call 1 scL scX (d + 1)) (mt 49) P 244 scL scX 26 (Lf up lo q x4 x5 x6) [] 244 fi (cF nr fa fr) (cA ai) al := by
  obtain ⟨e4, e3⟩ := sh_2i hp
  unfold uGr at hk
  rw [← cA_up rfl, ← cA_up rfl] at hk
  have b4 : 0 ≤ pick / 4 ∧ pick / 4 ≤ 3 := by omega
  have b3 : 0 ≤ pick % 4 ∧ pick % 4 ≤ 3 := by omega
  have bk : 0 ≤ (if 0 < lo - fi 233 10 then lo - fi 233 10 else 0) ∧ (if 0 < lo - fi 233 10 then lo - fi 233 10 else 0) ≤ 20 := by split <;> omega
  rw [← gM_min (o := pick / 4), ← gM_min (o := pick % 4), ← e4, ← e3] at hk
  rw [← e4] at b4
  rw [← e3] at b3
  refine rc_go [143] 120 ?_
  refine And.intro ⟨rg_sm (by omega) (by omega), ⟨by decide, by decide⟩⟩ (And.intro (fun h => absurd (show (96 : Int) ≤ q from h) (by omega)) (fun _ => ?_))
  refine Exists.intro 244 (And.intro ⟨Nat.le_refl _, Nat.le_refl _⟩ (c_placeOf hw ?_))
  refine Exists.intro 244 (And.intro ⟨Nat.le_refl _, Nat.le_refl _⟩ (c_pickAt hq (by omega) (by omega) hr ?_))
  refine And.intro ⟨hq.1, by show q < 192; omega⟩ ?_
  refine And.intro ⟨by omega, by show 96 + q < 192; omega⟩ ?_
  refine And.intro ⟨by decide, by decide⟩ ?_
  refine And.intro ⟨rg_sm (by omega) (by omega), rg_sm (x := b32 (fun p q => p >>> (q &&& 31)) pick 2 * 1) (by omega) (by omega)⟩ ?_
  refine And.intro ⟨by decide, by decide⟩ ?_
  refine And.intro ⟨rg_sm (by omega) (by omega), rg_sm (x := b32 (fun p q => p &&& q) pick 3 * 1) (by omega) (by omega)⟩ ?_
  refine And.intro ⟨⟨by decide, by decide⟩, rg_sm (x := lo - fi 233 10) (by omega) (by omega)⟩ ?_
  refine And.intro ⟨by decide, by decide⟩ ?_
  refine And.intro ⟨rg_sm (x := up - (if 0 < lo - fi 233 10 then lo - fi 233 10 else 0)) (by omega) (by omega), rg_sm (x := 5) (by omega) (by omega)⟩ (And.intro (fun h5 => ?_) (fun h5 => ?_))
  · have h5 : up - (if 0 < lo - fi 233 10 then lo - fi 233 10 else 0) < 5 := h5
    rw [if_pos h5] at hk
    exact hk
  · have h5 : ¬ up - (if 0 < lo - fi 233 10 then lo - fi 233 10 else 0) < 5 := h5
    rw [if_neg h5] at hk
    exact hk
theorem wk_b {q up lo x y v g : Int} {x4 : Option av} (hl : 0 ≤ lo ∧ lo ≤ 20)
    (hk : Rc 1 (Call 1 scL scX (d + 1)) (mt 49) P 244 scL scX 171 (Lf up lo q x4 (some (.inl x)) (some (.inl y))) [.inl (lGr lo y), .inl (fi 233 16), .inr (.inl (some 233))] 244 (up2 fi 233 15 (g + v)) (cF nr fa fr) (cA ai) al) :
    Rc 1 (Call 1 scL scX (d + 1)) (mt 49) P 244 scL scX 143 (Lf up lo q x4 (some (.inl x)) (some (.inl y))) [.inl v, .inl g, .inr (.inl (some 233))] 244 fi (cF nr fa fr) (cA ai) al := by
  unfold lGr at hk
  refine rc_go [171] 40 ?_
  refine And.intro ⟨by decide, by decide⟩ ?_
  refine And.intro ⟨rg_sm (by omega) (by omega), rg_sm (x := 5) (by omega) (by omega)⟩ (And.intro (fun h5 => ?_) (fun h5 => ?_))
  · have h5 : lo < 5 := h5
    rw [if_pos h5] at hk
    exact hk
  · have h5 : ¬ lo < 5 := h5
    rw [if_neg h5] at hk
    exact hk
theorem wk_c {q up lo x y v g : Int} {x4 : Option av} (hq : 0 ≤ q ∧ q < 96) (hu : 0 ≤ up ∧ up ≤ 20) (hl : 0 ≤ lo ∧ lo ≤ 20) (hx : 0 ≤ x ∧ x ≤ 3) (hy : 0 ≤ y ∧ y ≤ 3)
    (hk : Rc 1 (Call 1 scL scX (d + 1)) (mt 49) P 244 scL scX 26 (Lf (gC 20 (up - x + cmB q)) (gC 20 (lo - y + x)) (q + 1) x4 (some (.inl x)) (some (.inl y))) [] 244 (up2 fi 233 16 (g + v)) (cF nr fa fr) (cA ai) al) :
    Rc 1 (Call 1 scL scX (d + 1)) (mt 49) P 244 scL scX 171 (Lf up lo q x4 (some (.inl x)) (some (.inl y))) [.inl v, .inl g, .inr (.inl (some 233))] 244 fi (cF nr fa fr) (cA ai) al := by
  have bc := cmB_b (q := q)
  refine rc_go [26] 60 ?_
  refine And.intro ⟨by decide, by decide⟩ ?_
  refine Exists.intro 244 (And.intro ⟨Nat.le_refl _, Nat.le_refl _⟩ (c_comesB hq.1 hq.2 ?_))
  refine And.intro ⟨show rg 20 from ⟨by decide, by decide⟩, rg_sm (x := up - x + cmB q) (by omega) (by omega)⟩ ?_
  refine And.intro ⟨by decide, by decide⟩ ?_
  refine And.intro ⟨show rg 20 from ⟨by decide, by decide⟩, rg_sm (x := lo - y + x) (by omega) (by omega)⟩ ?_
  exact hk
/-- the row of first openings behind q quarters -/
def fst (K : Nat → Int → Int → Int) (a0 : tF) (q : Nat) (A : tF) : Prop := (∀ o, o ≠ 243 → A o = a0 o) ∧ ∀ k, k < q → A 243 k = cPk K k / 4 ∧ A 243 (96 + k) = cPk K k % 4
theorem fst_step {K : Nat → Int → Int → Int} {a0 A : tF} {q : Nat} (hq : q < 96) (h : fst K a0 q A) : fst K a0 (q + 1) (up2 (up2 A 243 ((q : Int)).toNat (cPk K q / 4)) 243 (96 + (q : Int)).toNat (cPk K q % 4)) := by
  have t1 : ((q : Int)).toNat = q := rfl
  have t2 : (96 + (q : Int)).toNat = 96 + q := rfl
  rw [t1, t2]
  refine ⟨fun o ho => ?_, fun k hk => ?_⟩
  · rw [up2_row ho, up2_row ho]
    exact h.1 o ho
  · rw [up2_if, up2_if, up2_if, up2_if]
    by_cases e : k = q
    · subst e
      rw [if_neg (by omega), if_pos ⟨rfl, rfl⟩, if_pos ⟨rfl, rfl⟩]
      exact ⟨rfl, rfl⟩
    · rw [if_neg (by omega), if_neg (by omega), if_neg (by omega), if_neg (by omega)]
      exact h.2 k (by omega)
theorem wk_l {K : Nat → Int → Int → Int} {a0 : tF} (hw : fi 233 13 = 21) (hmk : 0 ≤ fi 233 10 ∧ fi 233 10 ≤ 40) (hK : ∀ q : Nat, q < 96 → 0 ≤ cPk K q ∧ cPk K q ≤ 15) (hr : ∀ q : Nat, q < 96 → pkR (al 236 ((q : Int) * 106 + ((cSt K q).1 * 21 + (cSt K q).2).tdiv 16).toNat) ((cSt K q).1 * 21 + (cSt K q).2) = cPk K q)
    (hP : ∀ A, fst K a0 96 A → P (.inl none) (up2 (up2 fi 233 15 (cSU K (fi 233 10) 96)) 233 16 (cSL K 96)) (cF nr fa fr) (cA A) al) :
    ∀ (n q : Nat) (A : tF) (x4 x5 x6 : Option av), q + n = 96 → fst K a0 q A → Rc 1 (Call 1 scL scX (d + 1)) (mt 49) P 244 scL scX 26 (Lf (cSt K q).1 (cSt K q).2 q x4 x5 x6) [] 244 (up2 (up2 fi 233 15 (cSU K (fi 233 10) q)) 233 16 (cSL K q)) (cF nr fa fr) (cA A) al := by
  intro n
  induction n with
  | zero =>
    intro q A x4 x5 x6 hn hA
    have e : q = 96 := by omega
    subst e
    refine rc_go [] 10 ?_
    exact And.intro ⟨⟨by decide, by decide⟩, ⟨by decide, by decide⟩⟩ (And.intro (fun _ => And.intro rfl (hP A hA)) (fun h => absurd (by decide : (96 : Int) ≤ 96) h))
  | succ n ih =>
    intro q A x4 x5 x6 hn hA
    have hq : q < 96 := by omega
    have hq2 : 0 ≤ (q : Int) ∧ (q : Int) < 96 := ⟨by omega, by omega⟩
    have bs := cSt_b hK q (by omega)
    have bp := hK q hq
    have bx := gM_b (a := cPk K q / 4) (x := (cSt K q).1) ⟨by omega, by omega⟩ bs.1
    have by' := gM_b (a := cPk K q % 4) (x := (cSt K q).2) ⟨by omega, by omega⟩ bs.2
    refine wk_a (fi := up2 (up2 fi 233 15 (cSU K (fi 233 10) q)) 233 16 (cSL K q)) hq2 bs.1 bs.2 hw hmk bp (hr q hq) ?_
    refine wk_b bs.2 ?_
    refine wk_c hq2 bs.1 bs.2 ⟨bx.1, bx.2.1⟩ ⟨by'.1, by'.2.1⟩ ?_
    rw [up4]
    exact ih (q + 1) _ _ _ _ (by omega) (fst_step hq hA)
theorem c_walkFirst {K : Nat → Int → Int → Int} (hw : fi 233 13 = 21) (hmk : 0 ≤ fi 233 10 ∧ fi 233 10 ≤ 40) (hK : ∀ q : Nat, q < 96 → 0 ≤ cPk K q ∧ cPk K q ≤ 15) (hr : ∀ q : Nat, q < 96 → pkR (al 236 ((q : Int) * 106 + ((cSt K q).1 * 21 + (cSt K q).2).tdiv 16).toNat) ((cSt K q).1 * 21 + (cSt K q).2) = cPk K q) (e9 : ai 239 0 = 12) (e1 : ai 241 0 = 10)
    (hP : ∀ A, fst K ai 96 A → P (.inl none) (up2 (up2 fi 233 15 (cSU K (fi 233 10) 96)) 233 16 (cSL K 96)) (cF nr fa fr) (cA A) al) :
    Call 1 scL scX (d + 2) 49 [.inr (.inl (some 233))] 244 fi (cF nr fa fr) (cA ai) al 244 P := by
  have key := wk_l (scL := scL) (scX := scX) (d := d) (nr := nr) (fa := fa) (fr := fr) (al := al) (P := P) hw hmk hK hr hP 96 0 ai none none none (by decide) ⟨fun _ _ => rfl, fun k hk => absurd hk (by omega)⟩
  refine ⟨⟨Nat.le_refl _, rfl⟩, rc_go [26] 40 ?_⟩
  refine And.intro ⟨by decide, by decide⟩ ?_
  refine And.intro ⟨by decide, by decide⟩ ?_
  have key : Rc 1 (Call 1 scL scX (d + 1)) (mt 49) P 244 scL scX 26 (Lf 12 10 0 none none none) [] 244 (up2 (up2 fi 233 15 0) 233 16 0) (cF nr fa fr) (cA ai) al := key
  rw [← e9, ← e1] at key
  exact key
end Walk
