/-! the class's findTogether on a fresh object -/
theorem clr_cA {ai : tF} {o : Nat} {v : Int} (h : 16 ≤ o) : clr (cA ai) o v = cA (clr ai o v) := by
  funext i j
  unfold clr cA
  dsimp only
  by_cases hc : i = o
  · subst hc
    have e : ∀ c, c < 16 → Nat.beq i c = false := fun c hc => by
      cases e : Nat.beq i c
      · rfl
      · have := Nat.eq_of_beq_eq_true e
        omega
    rw [Nat.beq_refl, e 4 (by omega), e 5 (by omega), e 6 (by omega), e 7 (by omega), e 14 (by omega), e 15 (by omega)]; rfl
  · have e : Nat.beq i o = false := by
      cases e : Nat.beq i o
      · rfl
      · exact absurd (Nat.eq_of_beq_eq_true e) hc
    rw [e]; rfl
theorem clS_cA {ai : tF} : clS (cA ai) 0 = cA (clS ai 0) := by
  unfold clS
  rw [clr_cA (by decide), clr_cA (by decide), clr_cA (by decide), clr_cA (by decide), clr_cA (by decide), clr_cA (by decide), clr_cA (by decide), clr_cA (by decide), clr_cA (by decide), clr_cA (by decide)]
def f0 : Int → Int := fun _ => 0
theorem opn_4 : opn f0 4 := ⟨by decide, fun _ _ _ => ⟨Int.le_refl 0, Int.le_refl 4⟩⟩
theorem fN_row {A : tF} {c n o : Nat} {v : Int} (h : o ≠ c) : fN A c n v o = A o := by
  funext j
  unfold fN
  rw [if_neg (fun z => h z.1)]
theorem fN_at {A : tF} {c n k : Nat} {v : Int} (h : k < n) : fN A c n v c k = v := by
  unfold fN
  rw [if_pos ⟨rfl, h⟩]
theorem rowF_both {ai : tF} : rowF f0 f0 4 4 (fN (fN ai 237 192 0) 238 192 3) := by
  intro q h0 h1
  rw [fN_row (by decide : 237 ≠ 238), fN_at (by omega), fN_at (by omega), fN_at (by omega), fN_at (by omega)]
  exact ⟨rfl, rfl, rfl, rfl⟩
section WB
variable {wU wL mk : Int} {fA fB : Int → Int} {nA nB : Nat}
/-- the walk stays in the boxes -/
theorem walk_box {a0 A : tF} (hK : bK a0 A 95) (hF : rowF fA fB nA nB A) (hA : opn fA nA) (hB : opn fB nB) (hU : 0 ≤ wU ∧ wU ≤ 9) (hL : 0 ≤ wL ∧ wL ≤ 9) : ∀ q : Nat, q < 96 → inBx A q (cSt (cK wU wL mk fA fB nA nB) q).1 (cSt (cK wU wL mk fA fB nA nB) q).2
  | 0, _ => by
    have := hK.2.1
    refine ⟨show (0 : Int) ≤ 12 ∧ (12 : Int) ≤ 20 by decide, show (0 : Int) ≤ 10 ∧ (10 : Int) ≤ 20 by decide, fun _ => ?_⟩
    show (A 239 0 ≤ 12 ∧ 12 ≤ A 240 0) ∧ (A 241 0 ≤ 10 ∧ 10 ≤ A 242 0)
    omega
  | q + 1, h => by
    have ih := walk_box hK hF hA hB hU hL q (by omega)
    obtain ⟨i, j, h1, h2, h3, h4, h5, -⟩ := cK_at (mk := mk) hA hB hU hL (n := 95 - q) (by omega) ih.1 ih.2.1
    have eq : (95 : Int) - ((95 - q : Nat) : Int) = q := by omega
    rw [eq] at h1 h2 h3 h4
    have a1 := hA.2 q (by omega) (by omega)
    have b1 := hB.2 q (by omega) (by omega)
    obtain ⟨e1, e2, e3, e4⟩ := hF q (by omega) (by omega)
    have hs := bx_suc hK (i := i) (j := j) (by omega) (by omega) ih (by omega) (by omega) (by omega) (by omega) (by omega) (by omega)
    have d1 : (4 * i + j) / 4 = i := by omega
    have d2 : (4 * i + j) % 4 = j := by omega
    unfold cSt
    dsimp only
    rw [h5, d1, d2]
    rw [if20_mn] at hs
    have ec : ∀ z : Int, gC 20 z = min z 20 := fun z => by rw [gC_mn]; omega
    rw [ec ((cSt (cK wU wL mk fA fB nA nB) q).2 - gM j (cSt (cK wU wL mk fA fB nA nB) q).2 + gM i (cSt (cK wU wL mk fA fB nA nB) q).1)]
    exact hs
theorem mwO_walk {ai ai' : tF} {al al' : tL} (hF : rowF fA fB nA nB ai) (hA : opn fA nA) (hB : opn fB nB) (hU : 0 ≤ wU ∧ wU ≤ 9) (hL : 0 ≤ wL ∧ wL ≤ 9) (h : mwO wU wL mk fA fB nA nB ai al ai' al') : (∀ q : Nat, q < 96 → 0 ≤ cPk (cK wU wL mk fA fB nA nB) q ∧ cPk (cK wU wL mk fA fB nA nB) q ≤ 15) ∧ ∀ q : Nat, q < 96 → pkR (al' 236 ((q : Int) * 106 + ((cSt (cK wU wL mk fA fB nA nB) q).1 * 21 + (cSt (cK wU wL mk fA fB nA nB) q).2).tdiv 16).toNat) ((cSt (cK wU wL mk fA fB nA nB) q).1 * 21 + (cSt (cK wU wL mk fA fB nA nB) q).2) = cPk (cK wU wL mk fA fB nA nB) q := by
  obtain ⟨-, -, -, -, -, -, A, hK, hp⟩ := h
  have e7 : A 237 = ai 237 := hK.1 237 (by decide) (by decide) (by decide) (by decide)
  have e8 : A 238 = ai 238 := hK.1 238 (by decide) (by decide) (by decide) (by decide)
  have hFA : rowF fA fB nA nB A := fun q h0 h1 => by rw [e7, e8]; exact hF q h0 h1
  have hb := walk_box (mk := mk) hK hFA hA hB hU hL
  refine ⟨fun q hq => ?_, fun q hq => ?_⟩
  · exact cK_b hA hB hU hL (by omega) (hb q hq).1 (hb q hq).2.1
  · rw [hp q _ _ (by omega) (by omega) (hb q hq), show (95 - (q : Int)).toNat = 95 - q by omega]
    rfl
end WB
/-- what findTogether leaves: the value, both grounds, the plans; all else that others look at is as it was -/
def ftO (K : Nat → Int → Int → Int) (V SU SL : Int) (fi ai : tF) (al : tL) (fi' ai' : tF) (al' : tL) : Prop :=
  (fi' 49 0 = 1 ∧ fi' 49 1 = V ∧ fi' 49 2 = SU ∧ fi' 49 3 = SL ∧ fi' 49 6 = fi 49 6) ∧ (∀ o, o ≠ 49 → o ≠ 233 → fi' o = fi o) ∧
  (∀ k, k < 96 → ai' 50 k = cPk K k / 4 ∧ ai' 50 (96 + k) = cPk K k % 4) ∧ (∀ o, o < 234 → o ≠ 50 → ai' o = ai o) ∧ (∀ k, 0 ≤ ai' 234 k ∧ ai' 234 k ≤ 5184) ∧ (∀ k, 0 ≤ ai' 235 k ∧ ai' 235 k ≤ 5184) ∧ (∀ o, o < 234 → al' o = al o)
section WW
variable {scL : Nat} {scX : Nat → Int} {d : Nat} {fi : tF} {fr : tR} {ai : tF} {al : tL} {P : ot} {nr fa : Nat} {fA fB : Int → Int} {nA nB : Nat}
/-- mostWorth with its numbers named: nothing is computed -/
theorem c_mostWorthW {wU wL mk V : Int} (e1 : fi 233 11 = wU) (e2 : fi 233 12 = wL) (e3 : fi 233 10 = mk) (hV : cW wU wL mk fA fB nA nB 96 12 10 = V) (hnf : nfo nr fa) (hU : 0 ≤ wU ∧ wU ≤ 9) (hL : 0 ≤ wL ∧ wL ≤ 9) (hmk : 0 ≤ mk ∧ mk ≤ 40) (hA : opn fA nA) (hB : opn fB nB) (hF : rowF fA fB nA nB ai) (h4 : ∀ k, 0 ≤ ai 234 k ∧ ai 234 k ≤ 5184) (h5 : ∀ k, 0 ≤ ai 235 k ∧ ai 235 k ≤ 5184)
    (hP : ∀ nr' fa' ai' al', nfo nr' fa' → mwO wU wL mk fA fB nA nB ai al ai' al' → P (.inl (some (.inl V))) (up2 fi 233 13 21) (cF nr' fa' fr) (cA ai') al') :
    Call 1 scL scX (d + 3) 41 [.inr (.inl (some 233))] 244 fi (cF nr fa fr) (cA ai) al 244 P := by
  subst e1
  subst e2
  subst e3
  subst hV
  exact c_mostWorthV hnf hU hL hmk hA hB hF h4 h5 hP
theorem c_walkFirstW {K : Nat → Int → Int → Int} {mk SU SL : Int} (hw : fi 233 13 = 21) (e3 : fi 233 10 = mk) (hSU : cSU K mk 96 = SU) (hSL : cSL K 96 = SL) (hmk : 0 ≤ mk ∧ mk ≤ 40) (hK : ∀ q : Nat, q < 96 → 0 ≤ cPk K q ∧ cPk K q ≤ 15) (hr : ∀ q : Nat, q < 96 → pkR (al 236 ((q : Int) * 106 + ((cSt K q).1 * 21 + (cSt K q).2).tdiv 16).toNat) ((cSt K q).1 * 21 + (cSt K q).2) = cPk K q) (e9 : ai 239 0 = 12) (e1 : ai 241 0 = 10)
    (hP : ∀ A, fst K ai 96 A → P (.inl none) (up2 (up2 fi 233 15 SU) 233 16 SL) (cF nr fa fr) (cA A) al) :
    Call 1 scL scX (d + 2) 49 [.inr (.inl (some 233))] 244 fi (cF nr fa fr) (cA ai) al 244 P := by
  subst e3
  subst hSU
  subst hSL
  exact c_walkFirst hw hmk hK hr e9 e1 hP
end WW
theorem clS_0 {ai : tF} (k : Nat) : (0 ≤ clS ai 0 234 k ∧ clS ai 0 234 k ≤ 5184) ∧ (0 ≤ clS ai 0 235 k ∧ clS ai 0 235 k ≤ 5184) := by
  have e4 : clS ai 0 234 k = 0 := rfl
  have e5 : clS ai 0 235 k = 0 := rfl
  rw [e4, e5]
  decide
theorem cp_50 {A : tF} : cpR (cA A) 243 0 50 0 192 = cA (cpR A 243 0 50 0 192) := by
  funext i j
  rw [cpR_if]
  unfold cA
  rw [cpR_if]
  by_cases h : i = 50 ∧ 0 ≤ j ∧ j < 0 + 192
  · rw [if_pos h, if_pos h, h.1]; rfl
  · rw [if_neg h, if_neg h]
section Find
variable {scL : Nat} {scX : Nat → Int} {d : Nat} {fi : tF} {ai : tF} {al : tL} {P : ot}
set_option maxRecDepth 4096 in
theorem c_findTog {K : Nat → Int → Int → Int} {mk V SU SL : Int} (h0 : fi 49 0 = 0) (e36 : fi 3 6 = mk) (hmk : 0 ≤ mk ∧ mk ≤ 40) (hK : cK 1 1 mk f0 f0 4 4 = K) (hV : cW 1 1 mk f0 f0 4 4 96 12 10 = V) (hSU : cSU K mk 96 = SU) (hSL : cSL K 96 = SL)
    (hP : ∀ nr fa fi' ai' al', nfo nr fa → ftO K V SU SL fi ai al fi' ai' al' → P (.inl none) fi' (cF nr fa frB) (cA ai') al') :
    Call 1 scL scX (d + 4) 115 [.inr (.inl (some 0))] 233 fi frB (cA ai) al 244 P := by
  have h11 : (0 : Int) ≤ 1 ∧ (1 : Int) ≤ 9 := ⟨by decide, by decide⟩
  refine ⟨⟨by decide, rfl⟩, rc_go [] 60 ?_⟩
  refine And.intro (fun _ => ?_) (fun h => absurd h0 h)
  refine Exists.intro 244 (And.intro ⟨by decide, by decide⟩ (c_ready ?_))
  rw [clS_cA]
  refine Exists.intro 244 (And.intro ⟨by decide, by decide⟩ (c_freeBoth0 ?_))
  refine Exists.intro 244 (And.intro ⟨by decide, by decide⟩ (c_weighBy ?_))
  refine Exists.intro 244 (And.intro ⟨by decide, by decide⟩ (c_mostWorthW (wU := 1) (wL := 1) (mk := mk) (V := V) (fA := f0) (fB := f0) (nA := 4) (nB := 4) rfl rfl e36 hV (Or.inl ⟨rfl, rfl⟩) h11 h11 hmk opn_4 opn_4 rowF_both ?_ ?_ (fun nr fa ai3 al3 hn hm => ?_)))
  · intro k
    rw [fN_row (by decide), fN_row (by decide)]
    exact (clS_0 k).1
  · intro k
    rw [fN_row (by decide), fN_row (by decide)]
    exact (clS_0 k).2
  · obtain ⟨w1, w2⟩ := mwO_walk rowF_both opn_4 opn_4 h11 h11 hm
    rw [hK] at w1 w2
    obtain ⟨m1, m2, m3, m4, m5, m6, -⟩ := hm
    refine Exists.intro 244 (And.intro ⟨by decide, by decide⟩ (c_walkFirstW (K := K) (mk := mk) (SU := SU) (SL := SL) rfl e36 hSU hSL hmk w1 w2 m5 m6 (fun A hA => ?_)))
    refine And.intro ⟨by decide, by decide, by decide, by decide, by decide⟩ ?_
    refine And.intro (Or.inr rfl) ?_
    refine And.intro rfl ?_
    rw [show cpR (cA A) 243 (0 : Int).toNat 50 (0 : Int).toNat (192 : Int).toNat = cA (cpR A 243 0 50 0 192) from cp_50]
    refine hP nr fa _ _ _ hn ⟨⟨rfl, rfl, rfl, rfl, rfl⟩, fun o h1 h2 => ?_, fun k hk => ?_, fun o h1 h2 => ?_, fun k => ?_, fun k => ?_, fun o h1 => ?_⟩
    · simp only [up2_row h1, up2_row h2, clr_row h2]
    · rw [cpR_if, cpR_if, if_pos ⟨rfl, by omega, by omega⟩, if_pos ⟨rfl, by omega, by omega⟩]
      have := hA.2 k hk
      rw [show 0 + (k - 0) = k by omega, show 0 + (96 + k - 0) = 96 + k by omega]
      exact this
    · have e : cpR A 243 0 50 0 192 o = A o := by
        funext j
        rw [cpR_if, if_neg (fun z => h2 z.1)]
      rw [e, hA.1 o (by omega), m1 o (by omega) (by omega) (by omega) (by omega) (by omega) (by omega), fN_row (by omega), fN_row (by omega), clS_row h1]
    · rw [cpR_if, if_neg (by omega), hA.1 234 (by decide)]
      exact m3 k
    · rw [cpR_if, if_neg (by omega), hA.1 235 (by decide)]
      exact m4 k
    · rw [m2 o (by omega), clS_row h1]
theorem c_together {K : Nat → Int → Int → Int} {mk V SU SL : Int} (h0 : fi 49 0 = 0) (e36 : fi 3 6 = mk) (hmk : 0 ≤ mk ∧ mk ≤ 40) (hK : cK 1 1 mk f0 f0 4 4 = K) (hV : cW 1 1 mk f0 f0 4 4 96 12 10 = V) (hSU : cSU K mk 96 = SU) (hSL : cSL K 96 = SL)
    (hP : ∀ nr fa fi' ai' al', nfo nr fa → ftO K V SU SL fi ai al fi' ai' al' → P (.inl (some (.inl V))) fi' (cF nr fa frB) (cA ai') al') :
    Call 1 scL scX (d + 5) 78 [.inr (.inl (some 0))] 233 fi frB (cA ai) al 244 P := by
  refine ⟨⟨by decide, rfl⟩, rc_go [] 12 ?_⟩
  refine Exists.intro 244 (And.intro ⟨by decide, by decide⟩ (c_findTog h0 e36 hmk hK hV hSU hSL (fun nr fa fi' ai' al' hn hf => ?_)))
  have h := hP nr fa fi' ai' al' hn hf
  rw [← hf.1.2.1] at h
  exact And.intro rfl h
end Find
