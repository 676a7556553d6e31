/-! weighed and pays: along the walk both grind what the day grinds -/
theorem dU_cg {s : Int × Int × Int} {A B A' B' : Nat → Int} (hA : ∀ q, q < 96 → A q = A' q) (hB : ∀ q, q < 96 → B q = B' q) : ∀ q, q ≤ 96 → dU s A B q = dU s A' B' q
  | 0, _ => rfl
  | q + 1, h => by
    unfold dU
    rw [dU_cg hA hB q (by omega), hA q (by omega), hB q (by omega)]
theorem sA_cg {s : Int × Int × Int} {A B A' B' : Nat → Int} (hA : ∀ q, q < 96 → A q = A' q) (hB : ∀ q, q < 96 → B q = B' q) : ∀ q, q ≤ 96 → sA s A B q = sA s A' B' q ∧ sB s A B q = sB s A' B' q
  | 0, _ => ⟨rfl, rfl⟩
  | q + 1, h => by
    obtain ⟨h1, h2⟩ := sA_cg (s := s) hA hB q (by omega)
    unfold sA sB dA dB
    rw [h1, h2, dU_cg hA hB q (by omega), hA q (by omega), hB q (by omega)]
    exact ⟨rfl, rfl⟩
theorem sM_cg {m : Int} {A B A' B' : Nat → Int} (hA : ∀ q, q < 96 → A q = A' q) (hB : ∀ q, q < 96 → B q = B' q) : sM m A B = sM m A' B' := by
  unfold sM
  rw [(sA_cg hA hB 96 (by decide)).1, (sA_cg hA hB 96 (by decide)).2]
def pA (K : Nat → Int → Int → Int) (q : Nat) : Int := cPk K q / 4
def pBb (K : Nat → Int → Int → Int) (q : Nat) : Int := cPk K q % 4
theorem walk_day {K : Nat → Int → Int → Int} : ∀ q, q < 96 → (cSt K q).1 = gX (dU s0 (pA K) (pBb K) q).1 ∧ (cSt K q).2 = gY (dU s0 (pA K) (pBb K) q).2.1 (dU s0 (pA K) (pBb K) q).2.2
  | 0, _ => ⟨rfl, rfl⟩
  | q + 1, h => by
    obtain ⟨h1, h2⟩ := walk_day (K := K) q (by omega)
    have ec : cmB (q : Int) = 2 := by
      unfold cmB
      rw [if_pos (by omega)]
    refine ⟨?_, ?_⟩
    · show gC 20 ((cSt K q).1 - gM (cPk K q / 4) (cSt K q).1 + cmB q) = gX (gX (dU s0 (pA K) (pBb K) q).1 - gM (pA K q) (gX (dU s0 (pA K) (pBb K) q).1))
      rw [h1, ec, gC_X]
      rfl
    · show gC 20 ((cSt K q).2 - gM (cPk K q % 4) (cSt K q).2 + gM (cPk K q / 4) (cSt K q).1) = gY (gY (dU s0 (pA K) (pBb K) q).2.1 (dU s0 (pA K) (pBb K) q).2.2 - gM (pBb K q) (gY (dU s0 (pA K) (pBb K) q).2.1 (dU s0 (pA K) (pBb K) q).2.2)) (gM (pA K q) (gX (dU s0 (pA K) (pBb K) q).1))
      rw [h1, h2, gC_mn, gY_mn (gY (dU s0 (pA K) (pBb K) q).2.1 (dU s0 (pA K) (pBb K) q).2.2 - gM (pBb K q) (gY (dU s0 (pA K) (pBb K) q).2.1 (dU s0 (pA K) (pBb K) q).2.2))]
      unfold pA pBb
      omega
theorem walk_sum {K : Nat → Int → Int → Int} (hK : ∀ q : Nat, q < 96 → 0 ≤ cPk K q ∧ cPk K q ≤ 15) : ∀ n, n ≤ 96 → cSU K 40 n = sA s0 (pA K) (pBb K) n ∧ cSL K n = sB s0 (pA K) (pBb K) n
  | 0, _ => ⟨rfl, rfl⟩
  | n + 1, h => by
    obtain ⟨h1, h2⟩ := walk_sum hK n (by omega)
    obtain ⟨w1, w2⟩ := walk_day (K := K) n (by omega)
    have bs := cSt_b hK n (by omega)
    refine ⟨?_, ?_⟩
    · show cSU K 40 n + uGr 40 (cSt K n).1 (cSt K n).2 (gM (cPk K n / 4) (cSt K n).1) = sA s0 (pA K) (pBb K) n + dA s0 (pA K) (pBb K) n
      rw [h1]
      congr 1
      unfold uGr dA
      rw [if_neg (by omega : ¬ 0 < (cSt K n).2 - 40), Int.sub_zero, w1]
      rfl
    · show cSL K n + lGr (cSt K n).2 (gM (cPk K n % 4) (cSt K n).2) = sB s0 (pA K) (pBb K) n + dB s0 (pA K) (pBb K) n
      rw [h2]
      congr 1
      unfold lGr dB
      rw [w2]
      rfl
/-- the reference's ground along its choices is the class's along its picks -/
theorem gr_eq {a b : Int} {pl : Nat → Int} {m SU SL : Int} (hU : 0 ≤ a ∧ a ≤ 9) (hL : 0 ≤ b ∧ b ≤ 9) (h1 : cSU (cK a b 40 f0 f0 4 4) 40 96 = SU) (h2 : cSL (cK a b 40 f0 f0 4 4) 96 = SL) : sM m (fun q => rPk (rK a b 40 (pB 3 pl) (nBw 3)) q / 4) (fun q => rPk (rK a b 40 (pB 3 pl) (nBw 3)) q % 4) = if m = 0 then SU else SL := by
  have hw : ∀ q, q < 96 → rPk (rK a b 40 (pB 3 pl) (nBw 3)) q = cPk (cK a b 40 f0 f0 4 4) q := fun q hq => (walk_eq (wA := a) (wB := b) (mk := 40) (fq := f0) (nB := 4) (fun q => ⟨Int.le_refl 0, Int.le_refl 4⟩) q hq).2.2
  have hK : ∀ q : Nat, q < 96 → 0 ≤ cPk (cK a b 40 f0 f0 4 4) q ∧ cPk (cK a b 40 f0 f0 4 4) q ≤ 15 := fun q hq => by
    rw [← hw q hq]
    exact rK_b (fun q => ⟨Int.le_refl 0, Int.le_refl 4⟩)
  rw [sM_cg (A' := pA (cK a b 40 f0 f0 4 4)) (B' := pBb (cK a b 40 f0 f0 4 4)) (fun q hq => by show rPk _ q / 4 = _; rw [hw q hq]; rfl) (fun q hq => by show rPk _ q % 4 = _; rw [hw q hq]; rfl)]
  obtain ⟨e1, e2⟩ := walk_sum hK 96 (by decide)
  unfold sM
  rw [← e1, ← e2, h1, h2]
section Wg
variable {scL : Nat} {scX : Nat → Int} {d N : Nat} {fi : tF} {fr : tR} {ai : tF} {al : tL} {P : ot}
set_option maxRecDepth 4096 in
theorem c_findWgh {K : Nat → Int → Int → Int} {a b mk V SU SL : Int} (ha : 0 ≤ a ∧ a ≤ 9) (hb : 0 ≤ b ∧ b ≤ 9) (h0 : fi 49 6 = -1) (e36 : fi 3 6 = mk) (hmk : 0 ≤ mk ∧ mk ≤ 40) (hK : cK a b mk f0 f0 4 4 = K) (hV : cW a b mk f0 f0 4 4 96 12 10 = V) (hSU : cSU K mk 96 = SU) (hSL : cSL K 96 = SL)
    (hP : ∀ nr fa fi' ai' al', nfo nr fa → (fi' 49 7 = V ∧ fi' 49 8 = SU ∧ fi' 49 9 = SL) → (∀ o, o ≠ 49 → o ≠ 233 → fi' o = fi o) → (∀ o, o < 234 → ai' o = ai o) → (∀ o, o < 234 → al' o = al o) → P (.inl none) fi' (cF nr fa frB) (cA ai') al') :
    Call 1 scL scX (d + 4) 116 [.inr (.inl (some 0)), .inl a, .inl b] 233 fi frB (cA ai) al 244 P := by
  refine ⟨⟨by decide, rfl⟩, rc_go [] 80 ?_⟩
  refine And.intro (fun _ => And.intro (show rg (fi 49 6) by rw [h0]; exact ⟨by decide, by decide⟩) (And.intro (rg_sm (x := a * 10 + b) (by omega) (by omega)) ?_)) (fun h => absurd (show fi 49 6 = a * 10 + b from h) (by omega))
  refine Exists.intro 244 (And.intro ⟨by decide, by decide⟩ (c_ready ?_))
  rw [clS_cA]
  refine Exists.intro 244 (And.intro ⟨by decide, by decide⟩ (c_freeBoth0 ?_))
  refine Exists.intro 244 (And.intro ⟨by decide, by decide⟩ (c_weighBy ?_))
  refine Exists.intro 244 (And.intro ⟨by decide, by decide⟩ (c_mostWorthW (wU := a) (wL := b) (mk := mk) (V := V) (fA := f0) (fB := f0) (nA := 4) (nB := 4) rfl rfl e36 hV (Or.inl ⟨rfl, rfl⟩) ha hb hmk opn_4 opn_4 rowF_both ?_ ?_ (fun nr fa ai3 al3 hn hm => ?_)))
  · intro k
    rw [fN_row (by decide), fN_row (by decide)]
    exact (clS_0 k).1
  · intro k
    rw [fN_row (by decide), fN_row (by decide)]
    exact (clS_0 k).2
  · obtain ⟨w1, w2⟩ := mwO_walk rowF_both opn_4 opn_4 ha hb hm
    rw [hK] at w1 w2
    obtain ⟨m1, m2, m3, m4, m5, m6, -⟩ := hm
    refine Exists.intro 244 (And.intro ⟨by decide, by decide⟩ (c_walkFirstW (K := K) (mk := mk) (SU := SU) (SL := SL) rfl e36 hSU hSL hmk w1 w2 m5 m6 (fun A hA => ?_)))
    refine And.intro rfl ?_
    refine hP nr fa _ _ _ hn ⟨rfl, rfl, rfl⟩ (fun o h1 h2 => ?_) (fun o h1 => ?_) (fun o h1 => ?_)
    · simp only [up2_row h1, up2_row h2, clr_row h2]
    · rw [hA.1 o (by omega), m1 o (by omega) (by omega) (by omega) (by omega) (by omega) (by omega), fN_row (by omega), fN_row (by omega), clS_row h1]
    · rw [m2 o (by omega), clS_row h1]
/-- what weighed answers -/
def wgh (w V SU SL : Int) : Int := if w = 0 then V else if w = 1 then SU else SL
theorem c_mweighed {a b w V SU SL : Int} (ha : 0 ≤ a ∧ a ≤ 9) (hb : 0 ≤ b ∧ b ≤ 9) (hw : 0 ≤ w ∧ w ≤ 2) (hpl : ∀ k, 0 ≤ ai 81 k ∧ ai 81 k ≤ 3) (h36 : fi 54 36 = -1) (hV : ∀ pl, rV a b 40 (pB 3 pl) (nBw 3) 96 10 10 0 = V) (hS : ∀ pl m, sM m (fun q => rPk (rK a b 40 (pB 3 pl) (nBw 3)) q / 4) (fun q => rPk (rK a b 40 (pB 3 pl) (nBw 3)) q % 4) = if m = 0 then SU else SL)
    (hP : ∀ fi' ai', fi' 54 0 = 0 → P (.inl (some (.inl (wgh w V SU SL)))) fi' (rF fr) (rA ai') al) :
    Call 1 scL scX (d + 8) 198 [.inr (.inl (some 54)), .inl a, .inl b, .inl w] N fi (rF fr) (rA ai) al N P := by
  refine ⟨⟨Nat.le_refl _, rfl⟩, rc_go [] 80 ?_⟩
  refine Exists.intro N (And.intro ⟨Nat.le_refl _, Nat.le_refl _⟩ (c_in1 (rg_sm (by omega) (by omega)) ⟨by decide, by decide⟩ ⟨by decide, by decide⟩ ⟨by omega, by omega⟩ ?_))
  refine And.intro (fun h => absurd h (by decide)) (fun _ => And.intro ⟨by decide, by decide⟩ (And.intro ⟨by decide, by decide⟩ ?_))
  refine Exists.intro N (And.intro ⟨Nat.le_refl _, Nat.le_refl _⟩ (c_in1 (rg_sm (by omega) (by omega)) ⟨by decide, by decide⟩ ⟨by decide, by decide⟩ ⟨by omega, by omega⟩ ?_))
  refine And.intro (fun h => absurd h (by decide)) (fun _ => And.intro ⟨by decide, by decide⟩ (And.intro ⟨by decide, by decide⟩ ?_))
  refine Exists.intro N (And.intro ⟨Nat.le_refl _, Nat.le_refl _⟩ (c_in1 (rg_sm (by omega) (by omega)) ⟨by decide, by decide⟩ ⟨by decide, by decide⟩ ⟨by omega, by omega⟩ ?_))
  refine And.intro (fun _ => And.intro ⟨by decide, by decide⟩ (And.intro ⟨by decide, by decide⟩ ?_)) (fun h => absurd h (by decide))
  refine Exists.intro N (And.intro ⟨Nat.le_refl _, Nat.le_refl _⟩ (c_bad0 rfl ?_))
  refine And.intro (fun _ => ?_) (fun h => absurd rfl h)
  refine Exists.intro N (And.intro ⟨Nat.le_refl _, Nat.le_refl _⟩ (c_most (pl := ai 81) (hV _) ha hb (Or.inl rfl) hpl rfl (fun ai1 sb h1 h2 => ?_)))
  unfold wgh at hP
  refine And.intro (fun hne => And.intro (rg_sm (by omega) (by omega)) (And.intro ⟨by decide, by decide⟩ ?_)) (fun he => ?_)
  · have hne : w ≠ 0 := hne
    obtain ⟨w1, w2⟩ := chK_w (Or.inl rfl) hpl h2
    refine Exists.intro N (And.intro ⟨Nat.le_refl _, Nat.le_refl _⟩ (c_bestGround (d := d + 2) (m := w - 1) (V := if w - 1 = 0 then SU else SL) (by omega) (show (0 : Int) ≤ 40 ∧ (40 : Int) ≤ 40 from ⟨by decide, by decide⟩) w1 w2 h36 (hS _ _) (fun fi2 ai2 ht => ?_)))
    have k := hP fi2 ai2 ht
    rw [if_neg hne] at k
    have e : (if w - 1 = 0 then SU else SL) = (if w = 1 then SU else SL) := by
      by_cases h : w = 1
      · rw [if_pos h, if_pos (by omega)]
      · rw [if_neg h, if_neg (by omega)]
    rw [← e] at k
    exact And.intro rfl k
  · have he : w = 0 := he
    have k := hP _ ai1 (show (up2 (up2 (up2 (up2 (up2 fi 54 0 0) 54 37 a) 54 38 b) 54 39 40) 54 40 sb) 54 0 = 0 from rfl)
    rw [if_pos he] at k
    exact And.intro rfl k
theorem c_mpays {m VT Va Vb SU SL : Int} (hm : m = 0 ∨ m = 1) (hpl : ∀ k, 0 ≤ ai 81 k ∧ ai 81 k ≤ 3) (h36 : fi 54 36 = -1) (hT : ∀ pl, rV 1 1 40 (pB 3 pl) (nBw 3) 96 10 10 0 = VT) (ha : vOne m 40 (fun _ => 0) = Va) (hb : vOne (1 - m) 40 (fun _ => 0) = Vb) (hS : ∀ pl m, sM m (fun q => rPk (rK 1 1 40 (pB 3 pl) (nBw 3)) q / 4) (fun q => rPk (rK 1 1 40 (pB 3 pl) (nBw 3)) q % 4) = if m = 0 then SU else SL)
    (hP : ∀ fi' ai', fi' 54 0 = 0 → P (.inl (some (.inl (2 * (if m = 0 then SU else SL) - (Va + VT - Vb))))) fi' (rF fr) (rA ai') al) :
    Call 1 scL scX (d + 9) 200 [.inr (.inl (some 54)), .inl m] N fi (rF fr) (rA ai) al N P := by
  refine ⟨⟨Nat.le_refl _, rfl⟩, rc_go [] 60 ?_⟩
  refine Exists.intro N (And.intro ⟨Nat.le_refl _, Nat.le_refl _⟩ (c_isMill hm ?_))
  refine And.intro (fun _ => And.intro ⟨by decide, by decide⟩ (And.intro ⟨by decide, by decide⟩ ?_)) (fun h => absurd h (by decide))
  refine Exists.intro N (And.intro ⟨Nat.le_refl _, Nat.le_refl _⟩ (c_bad0 rfl ?_))
  refine And.intro (fun _ => ?_) (fun h => absurd rfl h)
  refine Exists.intro N (And.intro ⟨Nat.le_refl _, Nat.le_refl _⟩ (c_mshareOf hm hpl hT ha hb (fun fi1 ai1 hr => ?_)))
  have hpl1 : ∀ k, 0 ≤ ai1 81 k ∧ ai1 81 k ≤ 3 := by rw [hr.2.2 81 (Or.inl (by decide))]; exact hpl
  have h36a : fi1 54 36 = -1 := (hr.2.1 36 (by decide)).trans h36
  have h0a : fi1 54 0 = 0 := hr.2.1 0 (by decide)
  refine Exists.intro N (And.intro ⟨Nat.le_refl _, Nat.le_refl _⟩ (c_togNow (pl := ai1 81) (hT _) hpl1 rfl (fun ai2 sb h1 h2 => ?_)))
  obtain ⟨w1, w2⟩ := chK_w (Or.inl rfl) hpl1 h2
  refine Exists.intro N (And.intro ⟨Nat.le_refl _, Nat.le_refl _⟩ (c_bestGround (d := d + 3) (m := m) (V := if m = 0 then SU else SL) hm (show (0 : Int) ≤ 40 ∧ (40 : Int) ≤ 40 from ⟨by decide, by decide⟩) w1 w2 h36a (hS _ _) (fun fi2 ai3 ht => ?_)))
  exact And.intro rfl (hP fi2 ai3 (ht.trans h0a))
end Wg
theorem g_31 {scX : Nat → Int} (hI : ∀ j, -2147483648 ≤ scX j ∧ scX j ≤ 2147483647) (hop : b32 (fun p q => p &&& q) (scX 0) 63 = 31) : Good scX := by
  by_cases c : (0 ≤ scX 1 ∧ scX 1 ≤ 9) ∧ (0 ≤ scX 2 ∧ scX 2 ≤ 9) ∧ (0 ≤ scX 3 ∧ scX 3 ≤ 2)
  · obtain ⟨ca, cb, cw⟩ := c
    obtain ⟨K, hK⟩ : ∃ K, cK (scX 1) (scX 2) 40 f0 f0 4 4 = K := ⟨_, rfl⟩
    obtain ⟨V, hV⟩ : ∃ V, cW (scX 1) (scX 2) 40 f0 f0 4 4 96 12 10 = V := ⟨_, rfl⟩
    obtain ⟨SU, hSU⟩ : ∃ V, cSU K 40 96 = V := ⟨_, rfl⟩
    obtain ⟨SL, hSL⟩ : ∃ V, cSL K 96 = V := ⟨_, rfl⟩
    have hR : ∀ pl, rV (scX 1) (scX 2) 40 (pB 3 pl) (nBw 3) 96 10 10 0 = V := fun pl => val_3.symm.trans hV
    have hS : ∀ pl m, sM m (fun q => rPk (rK (scX 1) (scX 2) 40 (pB 3 pl) (nBw 3)) q / 4) (fun q => rPk (rK (scX 1) (scX 2) 40 (pB 3 pl) (nBw 3)) q % 4) = if m = 0 then SU else SL := fun pl m => gr_eq ca cb (by rw [hK]; exact hSU) (by rw [hK]; exact hSL)
    have r9 : rg 9 := ⟨by decide, by decide⟩
    have r0 : rg 0 := ⟨by decide, by decide⟩
    refine ga_31 hop ?_
    rw [← cA_h0]
    refine ⟨⟨by decide, rfl⟩, rc_go [] 60 ?_⟩
    refine Exists.intro 233 (And.intro ⟨by decide, by decide⟩ (c_needR (d := 28) (rg_sm (by omega) (by omega)) r0 r9 ca.1 ca.2 ?_))
    refine Exists.intro 233 (And.intro ⟨by decide, by decide⟩ (c_needR (d := 28) (rg_sm (by omega) (by omega)) r0 r9 cb.1 cb.2 ?_))
    refine Exists.intro 233 (And.intro ⟨by decide, by decide⟩ (c_needR (d := 28) (rg_sm (by omega) (by omega)) r0 ⟨by decide, by decide⟩ cw.1 cw.2 ?_))
    refine Exists.intro 244 (And.intro ⟨by decide, by decide⟩ (c_findWgh (d := 25) ca cb rfl rfl ⟨by decide, by decide⟩ hK hV hSU hSL (fun nr fa fi1 ai1 al1 hn hf h49 q5 hl => ?_)))
    have key : ∀ v, wgh (scX 3) V SU SL = v → Call 1 6 scX 31 198 [.inr (.inl (some 54)), .inl (scX 1), .inl (scX 2), .inl (scX 3)] 244 fi1 (cF nr fa frB) (cA ai1) (up2 al1 232 0 (Int32.ofInt v).toInt64) 244 (fun o2 fi2 _ _ al2 => o2 = .inl (some (.inl v)) ∧ fi2 54 0 = 0 ∧ al2 = up2 al1 232 0 (Int32.ofInt v).toInt64) := by
      intro v hv
      rw [← rF_c, ← rA_h0 (q5 58 (by decide)) (q5 60 (by decide))]
      refine c_mweighed (d := 23) ca cb cw (r81_b (q5 81 (by decide))) (congrFun (h49 54 (by decide) (by decide)) 36) hR hS (fun fi2 ai2 ht => ?_)
      rw [hv]
      exact ⟨rfl, ht, rfl⟩
    unfold wgh at key
    refine And.intro (rg_sm (by omega) (by omega)) (And.intro (fun e => ?_) (fun ne => And.intro (fun e => ?_) (fun ne2 => ?_)))
    · have e : scX 3 = 0 := e
      exact And.intro rfl ⟨fi1 49 7, rfl, key _ (by rw [if_pos e]; exact hf.1.symm)⟩
    · have ne : scX 3 ≠ 0 := ne
      have e : scX 3 = 1 := e
      exact And.intro rfl ⟨fi1 49 8, rfl, key _ (by rw [if_neg ne, if_pos e]; exact hf.2.1.symm)⟩
    · have ne : scX 3 ≠ 0 := ne
      have ne2 : scX 3 ≠ 1 := ne2
      exact And.intro rfl ⟨fi1 49 9, rfl, key _ (by rw [if_neg ne, if_neg ne2]; exact hf.2.2.symm)⟩
  · exact g_31_no hI hop c
theorem g_32 {scX : Nat → Int} (hI : ∀ j, -2147483648 ≤ scX j ∧ scX j ≤ 2147483647) (hop : b32 (fun p q => p &&& q) (scX 0) 63 = 32) : Good scX := by
  by_cases c : 0 ≤ scX 1 ∧ scX 1 ≤ 1
  · have hm : scX 1 = 0 ∨ scX 1 = 1 := by omega
    obtain ⟨K, hK⟩ : ∃ K, cK 1 1 40 f0 f0 4 4 = K := ⟨_, rfl⟩
    obtain ⟨VT, hVT⟩ : ∃ V, cW 1 1 40 f0 f0 4 4 96 12 10 = V := ⟨_, rfl⟩
    obtain ⟨SU, hSU⟩ : ∃ V, cSU K 40 96 = V := ⟨_, rfl⟩
    obtain ⟨SL, hSL⟩ : ∃ V, cSL K 96 = V := ⟨_, rfl⟩
    obtain ⟨Va, ha⟩ : ∃ V, vOne (scX 1) 40 (fun _ => 0) = V := ⟨_, rfl⟩
    obtain ⟨Vb, hb⟩ : ∃ V, vOne (1 - scX 1) 40 (fun _ => 0) = V := ⟨_, rfl⟩
    have hR : ∀ pl, rV 1 1 40 (pB 3 pl) (nBw 3) 96 10 10 0 = VT := fun pl => val_3.symm.trans hVT
    have hS : ∀ pl m, sM m (fun q => rPk (rK 1 1 40 (pB 3 pl) (nBw 3)) q / 4) (fun q => rPk (rK 1 1 40 (pB 3 pl) (nBw 3)) q % 4) = if m = 0 then SU else SL := fun pl m => gr_eq ⟨by decide, by decide⟩ ⟨by decide, by decide⟩ (by rw [hK]; exact hSU) (by rw [hK]; exact hSL)
    refine ga_32 hop ?_
    rw [← cA_h0]
    refine ⟨⟨by decide, rfl⟩, rc_go [30] 40 ?_⟩
    refine Exists.intro 233 (And.intro ⟨by decide, by decide⟩ (c_needMill (d := 28) hm ?_))
    refine Exists.intro 244 (And.intro ⟨by decide, by decide⟩ (c_findTog (d := 25) rfl rfl ⟨by decide, by decide⟩ hK hVT hSU hSL (fun nr fa fi1 ai1 al1 hn hf => ?_)))
    obtain ⟨⟨q1, q2, qu, ql, -⟩, q3, -, q5, q6, q7, -⟩ := hf
    have rest : ∀ g, (if scX 1 = 0 then SU else SL) = g → Rc 1 (Call 1 6 scX 29) (mt 96) (fun o fi' fr' ai' al' => ∃ V, o = .inl (some (.inl V)) ∧ Call 1 6 scX 31 200 [.inr (.inl (some 54)), .inl (scX 1)] 244 fi' fr' ai' (up2 al' 232 0 (Int32.ofInt V).toInt64) 244 (fun o2 fi2 _ _ al2 => o2 = .inl (some (.inl V)) ∧ fi2 54 0 = 0 ∧ al2 = up2 al' 232 0 (Int32.ofInt V).toInt64)) 244 6 scX 30 [some (.inr (.inl (some 0))), some (.inl (scX 1)), none] [.inl g] 244 fi1 (cF nr fa frB) (cA ai1) al1 := by
      intro g hg
      refine rc_go [] 20 ?_
      refine Exists.intro 244 (And.intro ⟨by decide, by decide⟩ ?_)
      refine ⟨⟨by decide, rfl⟩, rc_go [4] 20 ?_⟩
      refine Exists.intro 244 (And.intro ⟨by decide, by decide⟩ ?_)
      refine ⟨⟨by decide, rfl⟩, rc_go [] 20 ?_⟩
      refine And.intro (fun h => absurd (show fi1 49 0 = 0 from h) (by rw [q1]; decide)) (fun _ => And.intro (show rg (fi1 49 0) by rw [q1]; exact ⟨by decide, by decide⟩) (And.intro ⟨by decide, by decide⟩ (And.intro rfl ?_)))
      refine st_tail (d := 24) (mk := 40) hn hm q2 (fun k _ => congrFun (q5 51 (by decide) (by decide)) k) (congrFun (q3 3 (by decide) (by decide)) 6) ⟨by decide, by decide⟩ ha hb ⟨q6, q7⟩ (fun nr2 fa2 fi2 ai2 al2 hn2 e1 e2 e3 => ?_)
      refine And.intro rfl ⟨2 * g - (Va + VT - Vb), rfl, ?_⟩
      have e : ∀ o, o < 234 → o ≠ 50 → o ≠ 51 → ai2 o = h0A o := fun o h1 h2 h3 => (e2 o h1 h3).trans (q5 o h1 h2)
      rw [← rF_c, ← rA_h0 (e 58 (by decide) (by decide) (by decide)) (e 60 (by decide) (by decide) (by decide))]
      refine c_mpays (d := 22) hm (r81_b (e 81 (by decide) (by decide) (by decide))) ((congrFun (e1 54 (by decide)) 36).trans (congrFun (q3 54 (by decide) (by decide)) 36)) hR ha hb hS (fun fi3 ai3 ht => ?_)
      rw [hg]
      exact ⟨rfl, ht, rfl⟩
    refine And.intro (fun hne => And.intro (rg_sm (by omega) (by omega)) (And.intro ⟨by decide, by decide⟩ ?_)) (fun he => ?_)
    · have hne : scX 1 ≠ 0 := hne
      exact rest _ (by rw [if_neg hne]; exact ql.symm)
    · have he : scX 1 = 0 := he
      exact rest _ (by rw [if_pos he]; exact qu.symm)
  · exact g_32_no hI hop c
