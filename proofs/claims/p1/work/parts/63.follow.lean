/-! the reference's followsBest: along its choices; and that both walks are one -/
def rSt (K : Nat → Int → Int → Int → Int) : Nat → Int × Int × Int
  | 0 => (10, 10, 0)
  | q + 1 => (gX (rSt K q).1 - gM (K (95 - q) (rSt K q).1 (rSt K q).2.1 (rSt K q).2.2 / 4) (gX (rSt K q).1), gY (rSt K q).2.1 (rSt K q).2.2 - gM (K (95 - q) (rSt K q).1 (rSt K q).2.1 (rSt K q).2.2 % 4) (gY (rSt K q).2.1 (rSt K q).2.2), gM (K (95 - q) (rSt K q).1 (rSt K q).2.1 (rSt K q).2.2 / 4) (gX (rSt K q).1))
def rPk (K : Nat → Int → Int → Int → Int) (q : Nat) : Int := K (95 - q) (rSt K q).1 (rSt K q).2.1 (rSt K q).2.2
theorem rSt_b {K : Nat → Int → Int → Int → Int} (hK : ∀ q, q < 96 → 0 ≤ rPk K q ∧ rPk K q ≤ 15) : ∀ q, q ≤ 96 → (0 ≤ (rSt K q).1 ∧ (rSt K q).1 ≤ 20) ∧ (0 ≤ (rSt K q).2.1 ∧ (rSt K q).2.1 ≤ 20) ∧ (0 ≤ (rSt K q).2.2 ∧ (rSt K q).2.2 ≤ 3)
  | 0, _ => by
    show ((0 : Int) ≤ 10 ∧ (10 : Int) ≤ 20) ∧ ((0 : Int) ≤ 10 ∧ (10 : Int) ≤ 20) ∧ (0 : Int) ≤ 0 ∧ (0 : Int) ≤ 3
    decide
  | q + 1, h => by
    have ih := rSt_b hK q (by omega)
    have hp := hK q (by omega)
    unfold rPk at hp
    unfold rSt
    dsimp only
    rw [gM_mn, gM_mn, gX_mn, gY_mn]
    generalize K (95 - q) (rSt K q).1 (rSt K q).2.1 (rSt K q).2.2 = p at hp
    omega
theorem gS_dec {x y m n : Int} (hx : 0 ≤ x ∧ x ≤ 20) (hy : 0 ≤ y ∧ y ≤ 20) (hm : 0 ≤ m ∧ m ≤ 3 ∧ m ≤ x) (hn : 0 ≤ n ∧ n ≤ 3 ∧ n ≤ y) : (gS x y m n).tmod 13 = m ∧ ((gS x y m n).tdiv 13).tmod 41 = y - n ∧ ((gS x y m n).tdiv 13).tdiv 41 = x - m := by
  have b := gS_b hx hy hm hn
  rw [Int.tmod_eq_emod_of_nonneg b.1, Int.tdiv_eq_ediv_of_nonneg b.1, Int.tmod_eq_emod_of_nonneg (by omega), Int.tdiv_eq_ediv_of_nonneg (by omega)]
  have e1 : gS x y m n / 13 = (x - m) * 41 + (y - n) := by
    unfold gS
    generalize (x - m) * 41 + (y - n) = z
    omega
  have e2 : gS x y m n % 13 = m := by
    unfold gS
    generalize (x - m) * 41 + (y - n) = z
    omega
  rw [e1, e2]
  refine ⟨rfl, ?_, ?_⟩ <;> omega
def Lg (u l w q : Int) (x5 x6 : Option av) : List (Option av) := [some (.inr (.inl (some 54))), some (.inl u), some (.inl l), some (.inl w), some (.inl q), x5, x6]
section Fol
variable {scL : Nat} {scX : Nat → Int} {d N : Nat} {fi : tF} {fr : tR} {ai : tF} {al : tL} {P : ot}
theorem fb_1 {q u l w which : Int} (hq : 0 ≤ q ∧ q < 96) (hu : 0 ≤ u ∧ u ≤ 20) (hl : 0 ≤ l ∧ l ≤ 20) (hw : 0 ≤ w ∧ w ≤ 3) (hr : rdB (ai 128 ((cx q u l w).tdiv 8).toNat) (cx q u l w) = which) {x5 x6 : Option av}
    (hk : Rc 1 (Call 1 scL scX (d + 3)) (mt 166) P N scL scX 66 (Lg u l w q (some (.inl (cx q u l w))) (some (.inl which))) [] N fi (rF fr) (rA ai) al) :
    Rc 1 (Call 1 scL scX (d + 3)) (mt 166) P N scL scX 21 (Lg u l w q x5 x6) [] N fi (rF fr) (rA ai) al := by
  have c0 : 0 ≤ cx q u l w := by unfold cx; omega
  have c1 : cx q u l w < 2097888 := by unfold cx; omega
  rw [← hr] at hk
  refine rc_go [66] 40 ?_
  refine And.intro ⟨rg_sm (by omega) (by omega), ⟨by decide, by decide⟩⟩ (And.intro (fun h => absurd (show (96 : Int) ≤ q from h) (by omega)) (fun _ => ?_))
  refine Exists.intro N (And.intro ⟨Nat.le_refl _, Nat.le_refl _⟩ (c_state ?_))
  refine And.intro ⟨rg_sm3 (x := cx q u l w) (by omega) (by omega), ⟨by decide, by decide⟩, by decide⟩ ?_
  refine And.intro (td8 c0 c1) ?_
  refine And.intro ⟨rg_sm3 (x := cx q u l w) (by omega) (by omega), ⟨by decide, by decide⟩, by decide⟩ ?_
  exact hk
set_option maxRecDepth 4096 in
theorem fb_2 {q u l w which c : Int} (hq : 0 ≤ q ∧ q < 96) (hu : 0 ≤ u ∧ u ≤ 20) (hl : 0 ≤ l ∧ l ≤ 20) (hw : 0 ≤ w ∧ w ≤ 3) (hmk : 0 ≤ fi 54 39 ∧ fi 54 39 ≤ 40) (hp : 0 ≤ which ∧ which ≤ 15)
    (hk : ∀ sb, Rc 1 (Call 1 scL scX (d + 3)) (mt 166) P N scL scX 21 (Lg (gX u - gM (which / 4) (gX u)) (gY l w - gM (which % 4) (gY l w)) (gM (which / 4) (gX u)) (q + 1) (some (.inl c)) (some (.inl which))) [] N (up2 fi 54 40 sb) (rF fr) (rA (up2 (up2 ai 123 q.toNat (which / 4)) 124 q.toNat (which % 4))) al) :
    Rc 1 (Call 1 scL scX (d + 3)) (mt 166) P N scL scX 66 (Lg u l w q (some (.inl c)) (some (.inl which))) [] N fi (rF fr) (rA ai) al := by
  have e4 : which.tdiv 4 = which / 4 := Int.tdiv_eq_ediv_of_nonneg hp.1
  have e3 : which.tmod 4 = which % 4 := Int.tmod_eq_emod_of_nonneg hp.1
  have bx := gX_b hu
  have by' := gY_b hl hw
  have a4 : 0 ≤ which.tdiv 4 ∧ which.tdiv 4 ≤ 3 := by rw [e4]; omega
  have a3 : 0 ≤ which.tmod 4 ∧ which.tmod 4 ≤ 3 := by rw [e3]; omega
  have bm := gM_b a4 bx
  have bn := gM_b a3 by'
  have hk := hk (gS (gX u) (gY l w) (gM (which / 4) (gX u)) (gM (which % 4) (gY l w)))
  rw [← rA_up (by decide) (by decide), ← rA_up (by decide) (by decide), ← e4, ← e3] at hk
  obtain ⟨d1, d2, d3⟩ := gS_dec bx by' bm bn
  have bS := gS_b bx by' bm bn
  have bD : 0 ≤ (gS (gX u) (gY l w) (gM (which.tdiv 4) (gX u)) (gM (which.tmod 4) (gY l w))).tdiv 13 ∧ (gS (gX u) (gY l w) (gM (which.tdiv 4) (gX u)) (gM (which.tmod 4) (gY l w))).tdiv 13 ≤ 10924 := by
    rw [Int.tdiv_eq_ediv_of_nonneg bS.1]
    omega
  have fin : Rc 1 (Call 1 scL scX (d + 3)) (mt 166) P N scL scX 21 (Lg (((gS (gX u) (gY l w) (gM (which.tdiv 4) (gX u)) (gM (which.tmod 4) (gY l w))).tdiv 13).tdiv 41) (((gS (gX u) (gY l w) (gM (which.tdiv 4) (gX u)) (gM (which.tmod 4) (gY l w))).tdiv 13).tmod 41) ((gS (gX u) (gY l w) (gM (which.tdiv 4) (gX u)) (gM (which.tmod 4) (gY l w))).tmod 13) (q + 1) (some (.inl c)) (some (.inl which))) [] N (up2 fi 54 40 (gS (gX u) (gY l w) (gM (which.tdiv 4) (gX u)) (gM (which.tmod 4) (gY l w)))) (rF fr) (up2 (up2 (rA ai) 123 q.toNat (which.tdiv 4)) 124 q.toNat (which.tmod 4)) al := by
    rw [d1, d2, d3]
    exact hk
  have rw4 : rg which ∧ rg 4 ∧ (4 : Int) ≠ 0 := ⟨rg_sm (by omega) (by omega), ⟨by decide, by decide⟩, by decide⟩
  have r13 : rg 13 ∧ (13 : Int) ≠ 0 := ⟨⟨by decide, by decide⟩, by decide⟩
  have r41 : rg 41 ∧ (41 : Int) ≠ 0 := ⟨⟨by decide, by decide⟩, by decide⟩
  have rS : rg (gS (gX u) (gY l w) (gM (which.tdiv 4) (gX u)) (gM (which.tmod 4) (gY l w))) := rg_sm3 (by omega) (by omega)
  have rD : rg ((gS (gX u) (gY l w) (gM (which.tdiv 4) (gX u)) (gM (which.tmod 4) (gY l w))).tdiv 13) := rg_sm3 (by omega) (by omega)
  refine rc_go [21] 100 ?_
  refine And.intro ⟨by decide, by decide⟩ (And.intro rw4 (And.intro ⟨hq.1, by show q < 96; omega⟩ ?_))
  refine And.intro ⟨by decide, by decide⟩ (And.intro rw4 (And.intro ⟨hq.1, by show q < 96; omega⟩ ?_))
  refine And.intro rw4 (And.intro rw4 ?_)
  rw [rA_up (by decide) (by decide), rA_up (by decide) (by decide)]
  refine Exists.intro N (And.intro ⟨Nat.le_refl _, Nat.le_refl _⟩ (c_grinds hq.1 hq.2 hu hl hw a4 a3 (mk := fi 54 39) hmk (wA := fi 54 37) (wB := fi 54 38) rfl rfl rfl ?_))
  rw [← rA_up (by decide) (by decide), ← rA_up (by decide) (by decide)]
  refine And.intro ⟨rS, r13⟩ (And.intro ⟨rS, r13⟩ (And.intro ⟨rD, r41⟩ (And.intro ⟨rS, r13⟩ (And.intro ⟨rD, r41⟩ ?_))))
  exact fin
/-- bestPlan behind q quarters -/
def bst (K : Nat → Int → Int → Int → Int) (a0 : tF) (q : Nat) (A : tF) : Prop := (∀ o, o ≠ 123 → o ≠ 124 → A o = a0 o) ∧ ∀ k, k < q → A 123 k = rPk K k / 4 ∧ A 124 k = rPk K k % 4
theorem bst_step {K : Nat → Int → Int → Int → Int} {a0 A : tF} {q : Nat} (h : bst K a0 q A) : bst K a0 (q + 1) (up2 (up2 A 123 ((q : Int)).toNat (rPk K q / 4)) 124 ((q : Int)).toNat (rPk K q % 4)) := by
  have t1 : ((q : Int)).toNat = q := rfl
  rw [t1]
  refine ⟨fun o h1 h2 => ?_, fun k hk => ?_⟩
  · rw [up2_row h2, up2_row h1]
    exact h.1 o h1 h2
  · rw [up2_row (by decide : 123 ≠ 124), up2_if, up2_if]
    by_cases e : k = q
    · subst e
      rw [if_pos ⟨rfl, rfl⟩, if_pos ⟨rfl, rfl⟩]
      exact ⟨rfl, rfl⟩
    · rw [if_neg (fun z => e z.2), if_neg (fun z => e z.2), up2_row (by decide : 124 ≠ 123)]
      exact h.2 k (by omega)
theorem fb_l {K : Nat → Int → Int → Int → Int} {a0 : tF} (hmk : 0 ≤ fi 54 39 ∧ fi 54 39 ≤ 40) (hK : ∀ q, q < 96 → 0 ≤ rPk K q ∧ rPk K q ≤ 15) (hr : ∀ q : Nat, q < 96 → rdB (a0 128 ((cx q (rSt K q).1 (rSt K q).2.1 (rSt K q).2.2).tdiv 8).toNat) (cx q (rSt K q).1 (rSt K q).2.1 (rSt K q).2.2) = rPk K q)
    (hP : ∀ A sb, bst K a0 96 A → P (.inl none) (up2 fi 54 40 sb) (rF fr) (rA A) al) :
    ∀ (n q : Nat) (A : tF) (sb : Int) (x5 x6 : Option av), q + n = 96 → bst K a0 q A → Rc 1 (Call 1 scL scX (d + 3)) (mt 166) P N scL scX 21 (Lg (rSt K q).1 (rSt K q).2.1 (rSt K q).2.2 q x5 x6) [] N (up2 fi 54 40 sb) (rF fr) (rA A) al := by
  intro n
  induction n with
  | zero =>
    intro q A sb x5 x6 hn hA
    have e : q = 96 := by omega
    subst e
    refine rc_go [] 10 ?_
    exact And.intro ⟨⟨by decide, by decide⟩, ⟨by decide, by decide⟩⟩ (And.intro (fun _ => And.intro rfl (hP A sb hA)) (fun h => absurd (by decide : (96 : Int) ≤ 96) h))
  | succ n ih =>
    intro q A sb x5 x6 hn hA
    have hq : q < 96 := by omega
    have hq2 : 0 ≤ (q : Int) ∧ (q : Int) < 96 := ⟨by omega, by omega⟩
    have bs := rSt_b hK q (by omega)
    refine fb_1 hq2 bs.1 bs.2.1 bs.2.2 (which := rPk K q) (by rw [hA.1 128 (by decide) (by decide)]; exact hr q hq) ?_
    refine fb_2 hq2 bs.1 bs.2.1 bs.2.2 hmk (hK q hq) (fun sb' => ?_)
    rw [up2_up2]
    exact ih (q + 1) _ sb' _ _ (by omega) (bst_step hA)
theorem c_followsBest {K : Nat → Int → Int → Int → Int} (hmk : 0 ≤ fi 54 39 ∧ fi 54 39 ≤ 40) (hK : ∀ q, q < 96 → 0 ≤ rPk K q ∧ rPk K q ≤ 15) (hr : ∀ q : Nat, q < 96 → rdB (ai 128 ((cx q (rSt K q).1 (rSt K q).2.1 (rSt K q).2.2).tdiv 8).toNat) (cx q (rSt K q).1 (rSt K q).2.1 (rSt K q).2.2) = rPk K q)
    (hP : ∀ A sb, bst K ai 96 A → P (.inl none) (up2 fi 54 40 sb) (rF fr) (rA A) al) : Call 1 scL scX (d + 4) 166 [.inr (.inl (some 54))] N fi (rF fr) (rA ai) al N P := by
  have key := fb_l (scL := scL) (scX := scX) (d := d) (N := N) (fr := fr) (al := al) (P := P) hmk hK hr hP 96 0 ai (fi 54 40) none none (by decide) ⟨fun _ _ _ => rfl, fun k hk => absurd hk (by omega)⟩
  rw [up2_id] at key
  refine ⟨⟨Nat.le_refl _, rfl⟩, rc_go [21] 20 ?_⟩
  refine And.intro ⟨by decide, by decide⟩ (And.intro ⟨by decide, by decide⟩ ?_)
  exact key
end Fol
section WEq
variable {wA wB mk : Int} {fq : Int → Int} {nB : Nat}
theorem rK_cK (hfq : ∀ q, 0 ≤ fq q ∧ fq q + nB ≤ 4) {n : Nat} {u l w : Int} (hu : 0 ≤ u ∧ u ≤ 20) (hl : 0 ≤ l ∧ l ≤ 20) (hw : 0 ≤ w ∧ w ≤ 3) : rK wA wB mk fq nB n u l w = cK wA wB mk (fun _ => 0) fq 4 nB n (gX u) (gY l w) := by
  unfold rK cK gJ
  rw [pairs_eq hfq n (rV_cV hfq n) hu hl hw, cW_cV n]
/-- both walks stand at the same places and pick the same -/
theorem walk_eq (hfq : ∀ q, 0 ≤ fq q ∧ fq q + nB ≤ 4) : ∀ q, q < 96 → gX (rSt (rK wA wB mk fq nB) q).1 = (cSt (cK wA wB mk (fun _ => 0) fq 4 nB) q).1 ∧ gY (rSt (rK wA wB mk fq nB) q).2.1 (rSt (rK wA wB mk fq nB) q).2.2 = (cSt (cK wA wB mk (fun _ => 0) fq 4 nB) q).2 ∧ rPk (rK wA wB mk fq nB) q = cPk (cK wA wB mk (fun _ => 0) fq 4 nB) q
  | 0, _ => by
    refine ⟨rfl, rfl, ?_⟩
    exact rK_cK hfq (u := 10) (l := 10) (w := 0) ⟨by decide, by decide⟩ ⟨by decide, by decide⟩ ⟨by decide, by decide⟩
  | q + 1, h => by
    obtain ⟨h1, h2, h3⟩ := walk_eq hfq q (by omega)
    have bs := rSt_b (K := rK wA wB mk fq nB) (fun q _ => rK_b hfq) (q + 1) (by omega)
    have bp : 0 ≤ rPk (rK wA wB mk fq nB) q ∧ rPk (rK wA wB mk fq nB) q ≤ 15 := rK_b hfq
    have e1 : gX (rSt (rK wA wB mk fq nB) (q + 1)).1 = (cSt (cK wA wB mk (fun _ => 0) fq 4 nB) (q + 1)).1 := by
      show gX (gX (rSt (rK wA wB mk fq nB) q).1 - gM (rPk (rK wA wB mk fq nB) q / 4) (gX (rSt (rK wA wB mk fq nB) q).1)) = gC 20 ((cSt (cK wA wB mk (fun _ => 0) fq 4 nB) q).1 - gM (cPk (cK wA wB mk (fun _ => 0) fq 4 nB) q / 4) (cSt (cK wA wB mk (fun _ => 0) fq 4 nB) q).1 + cmB q)
      have ec : cmB (q : Int) = 2 := by
        unfold cmB
        rw [if_pos (by omega)]
      rw [h1, h3, ec, gC_X]
    have e2 : gY (rSt (rK wA wB mk fq nB) (q + 1)).2.1 (rSt (rK wA wB mk fq nB) (q + 1)).2.2 = (cSt (cK wA wB mk (fun _ => 0) fq 4 nB) (q + 1)).2 := by
      show gY (gY (rSt (rK wA wB mk fq nB) q).2.1 (rSt (rK wA wB mk fq nB) q).2.2 - gM (rPk (rK wA wB mk fq nB) q % 4) (gY (rSt (rK wA wB mk fq nB) q).2.1 (rSt (rK wA wB mk fq nB) q).2.2)) (gM (rPk (rK wA wB mk fq nB) q / 4) (gX (rSt (rK wA wB mk fq nB) q).1)) = gC 20 ((cSt (cK wA wB mk (fun _ => 0) fq 4 nB) q).2 - gM (cPk (cK wA wB mk (fun _ => 0) fq 4 nB) q % 4) (cSt (cK wA wB mk (fun _ => 0) fq 4 nB) q).2 + gM (cPk (cK wA wB mk (fun _ => 0) fq 4 nB) q / 4) (cSt (cK wA wB mk (fun _ => 0) fq 4 nB) q).1)
      rw [h1, h2, h3, gY_mn, gC_mn]
      omega
    refine ⟨e1, e2, ?_⟩
    show rK wA wB mk fq nB (95 - (q + 1)) _ _ _ = cK wA wB mk (fun _ => 0) fq 4 nB (95 - (q + 1)) _ _
    rw [rK_cK hfq bs.1 bs.2.1 bs.2.2, e1, e2]
end WEq
