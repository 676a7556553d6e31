/-! the class: mostAlone, mostByReply, takeReply, giveReply -/
def bnd (ai : tF) : Prop := (∀ k, 0 ≤ ai 234 k ∧ ai 234 k ≤ 5184) ∧ (∀ k, 0 ≤ ai 235 k ∧ ai 235 k ≤ 5184)
theorem bnd_fo {ai : tF} {m : Int} {p : Nat → Int} (h : bnd ai) : bnd (foN (fN (fN ai 237 192 0) 238 192 3) (oth m) 96 p) := by
  unfold bnd
  rw [foN_row (by decide) (by decide), foN_row (by decide) (by decide), fN_row (by decide), fN_row (by decide), fN_row (by decide), fN_row (by decide)]
  exact h
theorem fo_lt {ai : tF} {m : Int} {p : Nat → Int} {o : Nat} (h : o < 237) : foN (fN (fN ai 237 192 0) 238 192 3) (oth m) 96 p o = ai o := by
  rw [foN_row (by omega) (by omega), fN_row (by omega), fN_row (by omega)]
/-- the value of one mill's best openings -/
def vOne (m mk : Int) (p : Nat → Int) : Int := cW (1 - m) m mk (oA m p) (oB m p) (nA1 m) (nB1 m) 96 12 10
def kOne (m mk : Int) (p : Nat → Int) : Nat → Int → Int → Int := cK (1 - m) m mk (oA m p) (oB m p) (nA1 m) (nB1 m)
theorem m_w {m : Int} (hm : m = 0 ∨ m = 1) : (0 ≤ 1 - m ∧ 1 - m ≤ 9) ∧ (0 ≤ m ∧ m ≤ 9) := by omega
section Al
variable {scL : Nat} {scX : Nat → Int} {d : Nat} {fi : tF} {ai : tF} {al : tL} {P : ot} {nr fa : Nat} {m mk V : Int} {p : Nat → Int}
/-- mostWorth behind freeOne, with what the walk needs of it -/
theorem c_mwOne {f a : tF} {fr : tR} {l : tL} (hm : m = 0 ∨ m = 1) (hp : ∀ k, 0 ≤ p k ∧ p k ≤ 3) (e1 : f 233 11 = 1 - m) (e2 : f 233 12 = m) (e3 : f 233 10 = mk) (hV : vOne m mk p = V) (hmk : 0 ≤ mk ∧ mk ≤ 40) (hnf : nfo nr fa) (hb : bnd a)
    (hP : ∀ nr' fa' ai' al', nfo nr' fa' → (∀ o, o < 234 → ai' o = a o) → bnd ai' → ai' 239 0 = 12 → ai' 241 0 = 10 → (∀ o, o < 234 → al' o = l o) → (∀ q : Nat, q < 96 → 0 ≤ cPk (kOne m mk p) q ∧ cPk (kOne m mk p) q ≤ 15) → (∀ q : Nat, q < 96 → pkR (al' 236 ((q : Int) * 106 + ((cSt (kOne m mk p) q).1 * 21 + (cSt (kOne m mk p) q).2).tdiv 16).toNat) ((cSt (kOne m mk p) q).1 * 21 + (cSt (kOne m mk p) q).2) = cPk (kOne m mk p) q) → P (.inl (some (.inl V))) (up2 f 233 13 21) (cF nr' fa' fr) (cA ai') al') :
    Call 1 scL scX (d + 3) 41 [.inr (.inl (some 233))] 244 f (cF nr fa fr) (cA (foN (fN (fN a 237 192 0) 238 192 3) (oth m) 96 p)) l 244 P := by
  obtain ⟨hA, hB⟩ := opn_A hm hp
  obtain ⟨hU, hL⟩ := m_w hm
  have hbb := bnd_fo (m := m) (p := p) hb
  refine c_mostWorthW e1 e2 e3 hV hnf hU hL hmk hA hB (rowF_one hm) hbb.1 hbb.2 (fun nr' fa' ai' al' hn hw => ?_)
  obtain ⟨w1, w2⟩ := mwO_walk (rowF_one hm) hA hB hU hL hw
  obtain ⟨m1, m2, m3, m4, m5, m6, -⟩ := hw
  refine hP nr' fa' ai' al' hn (fun o ho => ?_) ⟨m3, m4⟩ m5 m6 (fun o ho => m2 o (by omega)) w1 w2
  rw [m1 o (by omega) (by omega) (by omega) (by omega) (by omega) (by omega)]
  exact fo_lt (by omega)
/-- what mostAlone leaves -/
def maO (m V : Int) (fi ai : tF) (al : tL) (fi' ai' : tF) (al' : tL) : Prop := (∀ o, o ≠ 233 → fi' o = fi o) ∧ (∀ o, o < 234 → o ≠ 51 → ai' o = ai o) ∧ ai' 51 m.toNat = V ∧ (∀ k, k ≠ m.toNat → ai' 51 k = ai 51 k) ∧ bnd ai' ∧ (∀ o, o < 234 → al' o = al o)
theorem ma_end {f A : tF} {l : tL} (hm : m = 0 ∨ m = 1) (hb : bnd A) (hP : P (.inl (some (.inl V))) f (cF nr fa frB) (cA (up2 A 51 m.toNat V)) l) : Rc 1 (Call 1 scL scX (d + 3)) (mt 117) P 244 scL scX 40 [some (.inr (.inl (some 0))), some (.inl m), some (.inr (.inl (some 233)))] [.inl V, .inl m, .inr (.inl (some 51))] 244 f (cF nr fa frB) (cA A) l := by
  rw [← cA_up rfl] at hP
  have i2 : inb m 2 := ⟨by omega, by show m < 2; omega⟩
  refine rc_go [] 20 ?_
  refine And.intro i2 (And.intro i2 ?_)
  refine And.intro rfl ?_
  have e : up2 (cA A) 51 m.toNat V 51 m.toNat = V := by rw [up2_if, if_pos ⟨rfl, rfl⟩]
  have fin : P (.inl (some (.inl (up2 (cA A) 51 m.toNat V 51 m.toNat)))) f (cF nr fa frB) (up2 (cA A) 51 m.toNat V) l := by
    rw [e]
    exact hP
  exact fin
theorem plO_0 {a : tF} : plO none a (fun _ => 0) := ⟨fun _ => ⟨Int.le_refl 0, (by decide : (0 : Int) ≤ 3)⟩, Or.inl ⟨rfl, fun _ _ => rfl⟩⟩
theorem maO_of {f' A : tF} {l : tL} (hm : m = 0 ∨ m = 1) (h1 : ∀ o, o ≠ 233 → f' o = fi o) (h2 : ∀ o, o < 234 → A o = ai o) (hb : bnd A) (hl : ∀ o, o < 234 → l o = al o) : maO m V fi ai al f' (up2 A 51 m.toNat V) l := by
  refine ⟨h1, fun o ho h5 => ?_, ?_, fun k hk => ?_, ⟨fun k => ?_, fun k => ?_⟩, hl⟩
  · rw [up2_row h5]
    exact h2 o ho
  · rw [up2_if, if_pos ⟨rfl, rfl⟩]
  · rw [up2_if, if_neg (fun z => hk z.2), h2 51 (by decide)]
  · rw [up2_row (by decide)]
    exact hb.1 k
  · rw [up2_row (by decide)]
    exact hb.2 k
set_option maxRecDepth 4096 in
theorem c_mostAlone0 (hm : m = 0 ∨ m = 1) (h51 : ai 51 m.toNat = -1) (e36 : fi 3 6 = mk) (hmk : 0 ≤ mk ∧ mk ≤ 40) (hV : vOne m mk (fun _ => 0) = V)
    (hP : ∀ nr fa fi' ai' al', nfo nr fa → maO m V fi ai al fi' ai' al' → P (.inl (some (.inl V))) fi' (cF nr fa frB) (cA ai') al') :
    Call 1 scL scX (d + 4) 117 [.inr (.inl (some 0)), .inl m] 233 fi frB (cA ai) al 244 P := by
  refine ⟨⟨by decide, rfl⟩, rc_go [40] 40 ?_⟩
  refine And.intro ⟨by omega, by show m < 2; omega⟩ ?_
  refine And.intro (fun h => absurd h51 h) (fun _ => ?_)
  refine Exists.intro 244 (And.intro ⟨by decide, by decide⟩ (c_ready ?_))
  rw [clS_cA]
  refine Exists.intro 244 (And.intro ⟨by decide, by decide⟩ (c_freeOne0 hm plO_0 ?_))
  refine Exists.intro 244 (And.intro ⟨by decide, by decide⟩ (c_mwOne (mk := mk) (V := V) hm (fun _ => ⟨by decide, by decide⟩) rfl rfl e36 hV hmk (Or.inl ⟨rfl, rfl⟩) ⟨fun k => (clS_0 k).1, fun k => (clS_0 k).2⟩ (fun nr' fa' ai' al' hn h1 hb h9 h41 hl w1 w2 => ?_)))
  refine ma_end hm hb (hP nr' fa' _ _ _ hn (maO_of hm (fun o ho => ?_) (fun o ho => ?_) hb (fun o ho => ?_)))
  · simp only [up2_row ho, clr_row ho]
  · rw [h1 o ho, clS_row ho]
  · rw [hl o ho, clS_row ho]
set_option maxRecDepth 4096 in
theorem c_mostAlone2 (hnf : nfo nr fa) (hm : m = 0 ∨ m = 1) (h51 : ai 51 m.toNat = -1) (e36 : fi 3 6 = mk) (hmk : 0 ≤ mk ∧ mk ≤ 40) (hV : vOne m mk (fun _ => 0) = V) (hb : bnd ai)
    (hP : ∀ nr fa fi' ai' al', nfo nr fa → maO m V fi ai al fi' ai' al' → P (.inl (some (.inl V))) fi' (cF nr fa frB) (cA ai') al') :
    Call 1 scL scX (d + 4) 117 [.inr (.inl (some 0)), .inl m] 244 fi (cF nr fa frB) (cA ai) al 244 P := by
  refine ⟨⟨by decide, rfl⟩, rc_go [40] 40 ?_⟩
  refine And.intro ⟨by omega, by show m < 2; omega⟩ ?_
  refine And.intro (fun h => absurd h51 h) (fun _ => ?_)
  refine Exists.intro 244 (And.intro ⟨by decide, by decide⟩ (c_ready2 ?_))
  refine Exists.intro 244 (And.intro ⟨by decide, by decide⟩ (c_freeOne hm plO_0 ?_))
  refine Exists.intro 244 (And.intro ⟨by decide, by decide⟩ (c_mwOne (mk := mk) (V := V) hm (fun _ => ⟨by decide, by decide⟩) rfl rfl e36 hV hmk hnf hb (fun nr' fa' ai' al' hn h1 hb h9 h41 hl w1 w2 => ?_)))
  refine ma_end hm hb (hP nr' fa' _ _ _ hn (maO_of hm (fun o ho => ?_) (fun o ho => ?_) hb (fun o ho => ?_)))
  · simp only [up2_row ho]
  · exact h1 o ho
  · exact hl o ho
/-- what mostByReply leaves: also what the walk behind it needs -/
def rpO (m mk : Int) (p : Nat → Int) (fi ai : tF) (al : tL) (fi' ai' : tF) (al' : tL) : Prop := (∀ o, o ≠ 233 → fi' o = fi o) ∧ fi' 233 13 = 21 ∧ fi' 233 10 = mk ∧ (∀ o, o < 234 → ai' o = ai o) ∧ bnd ai' ∧ ai' 239 0 = 12 ∧ ai' 241 0 = 10 ∧ (∀ o, o < 234 → al' o = al o) ∧ (∀ q : Nat, q < 96 → 0 ≤ cPk (kOne m mk p) q ∧ cPk (kOne m mk p) q ≤ 15) ∧ (∀ q : Nat, q < 96 → pkR (al' 236 ((q : Int) * 106 + ((cSt (kOne m mk p) q).1 * 21 + (cSt (kOne m mk p) q).2).tdiv 16).toNat) ((cSt (kOne m mk p) q).1 * 21 + (cSt (kOne m mk p) q).2) = cPk (kOne m mk p) q)
set_option maxRecDepth 4096 in
theorem c_mbr0 (hm : m = 0 ∨ m = 1) (hp : plO (some 29) ai p) (e36 : fi 3 6 = mk) (hmk : 0 ≤ mk ∧ mk ≤ 40) (hV : vOne m mk p = V)
    (hP : ∀ nr fa fi' ai' al', nfo nr fa → rpO m mk p fi ai al fi' ai' al' → P (.inl (some (.inl V))) fi' (cF nr fa frB) (cA ai') al') :
    Call 1 scL scX (d + 4) 119 [.inr (.inl (some 0)), .inl m] 233 fi frB (cA ai) al 244 P := by
  have hp' : plO (some 29) (clS ai 0) p := by
    unfold plO at hp ⊢
    rw [clS_row (by decide)]
    exact hp
  refine ⟨⟨by decide, rfl⟩, rc_go [] 40 ?_⟩
  refine Exists.intro 244 (And.intro ⟨by decide, by decide⟩ (c_ready ?_))
  rw [clS_cA]
  refine Exists.intro 244 (And.intro ⟨by decide, by decide⟩ (c_freeOne0 hm hp' ?_))
  refine Exists.intro 244 (And.intro ⟨by decide, by decide⟩ (c_mwOne (mk := mk) (V := V) hm hp.1 rfl rfl e36 hV hmk (Or.inl ⟨rfl, rfl⟩) ⟨fun k => (clS_0 k).1, fun k => (clS_0 k).2⟩ (fun nr' fa' ai' al' hn h1 hb h9 h41 hl w1 w2 => ?_)))
  refine And.intro rfl (hP nr' fa' _ _ _ hn ⟨fun o ho => ?_, rfl, e36, fun o ho => ?_, hb, h9, h41, fun o ho => ?_, w1, w2⟩)
  · simp only [up2_row ho, clr_row ho]
  · rw [h1 o ho, clS_row ho]
  · rw [hl o ho, clS_row ho]
set_option maxRecDepth 4096 in
theorem c_mbr2 (hnf : nfo nr fa) (hm : m = 0 ∨ m = 1) (hp : plO (some 29) ai p) (e36 : fi 3 6 = mk) (hmk : 0 ≤ mk ∧ mk ≤ 40) (hV : vOne m mk p = V) (hb : bnd ai)
    (hP : ∀ nr fa fi' ai' al', nfo nr fa → rpO m mk p fi ai al fi' ai' al' → P (.inl (some (.inl V))) fi' (cF nr fa frB) (cA ai') al') :
    Call 1 scL scX (d + 4) 119 [.inr (.inl (some 0)), .inl m] 244 fi (cF nr fa frB) (cA ai) al 244 P := by
  refine ⟨⟨by decide, rfl⟩, rc_go [] 40 ?_⟩
  refine Exists.intro 244 (And.intro ⟨by decide, by decide⟩ (c_ready2 ?_))
  refine Exists.intro 244 (And.intro ⟨by decide, by decide⟩ (c_freeOne hm hp ?_))
  refine Exists.intro 244 (And.intro ⟨by decide, by decide⟩ (c_mwOne (mk := mk) (V := V) hm hp.1 rfl rfl e36 hV hmk hnf hb (fun nr' fa' ai' al' hn h1 hb h9 h41 hl w1 w2 => ?_)))
  refine And.intro rfl (hP nr' fa' _ _ _ hn ⟨fun o ho => ?_, rfl, e36, fun o ho => ?_, hb, h9, h41, fun o ho => ?_, w1, w2⟩)
  · simp only [up2_row ho]
  · exact h1 o ho
  · exact hl o ho
/-- what takeReply leaves: that mill's plan is along the walk -/
def tkO (m mk : Int) (p : Nat → Int) (fi ai : tF) (al : tL) (fi' ai' : tF) (al' : tL) : Prop := (∀ o, o ≠ 233 → fi' o = fi o) ∧ (∀ o, o < 234 → o ≠ 29 → ai' o = ai o) ∧ (∀ k, k < 96 → ai' 29 k = if m = 0 then cPk (kOne m mk p) k / 4 else ai 29 k) ∧ (∀ k, k < 96 → ai' 29 (96 + k) = if m = 0 then ai 29 (96 + k) else cPk (kOne m mk p) k % 4) ∧ bnd ai' ∧ al' = al
theorem cp_29 {A : tF} {k : Nat} : cpR (cA A) 243 k 29 k 96 = cA (cpR A 243 k 29 k 96) := by
  funext i j
  rw [cpR_if]
  unfold cA
  rw [cpR_if]
  by_cases h : i = 29 ∧ k ≤ j ∧ j < k + 96
  · rw [if_pos h, if_pos h, h.1]; rfl
  · rw [if_neg h, if_neg h]
theorem c_takeReply (hm : m = 0 ∨ m = 1) (hmk : 0 ≤ mk ∧ mk ≤ 40) {f0' a0' : tF} {l0' : tL} (h : rpO m mk p f0' a0' l0' fi ai al)
    (hP : ∀ fi' ai', tkO m mk p fi ai al fi' ai' al → P (.inl none) fi' (cF nr fa frB) (cA ai') al) :
    Call 1 scL scX (d + 3) 121 [.inr (.inl (some 0)), .inl m] 244 fi (cF nr fa frB) (cA ai) al 244 P := by
  obtain ⟨-, h13, h10, -, hb, h9, h41, -, w1, w2⟩ := h
  obtain ⟨SU, hSU⟩ : ∃ V, cSU (kOne m mk p) mk 96 = V := ⟨_, rfl⟩
  obtain ⟨SL, hSL⟩ : ∃ V, cSL (kOne m mk p) 96 = V := ⟨_, rfl⟩
  refine ⟨⟨by decide, rfl⟩, rc_go [] 40 ?_⟩
  refine Exists.intro 244 (And.intro ⟨by decide, by decide⟩ (c_ready2 ?_))
  refine Exists.intro 244 (And.intro ⟨by decide, by decide⟩ (c_walkFirstW (K := kOne m mk p) (mk := mk) (SU := SU) (SL := SL) h13 h10 hSU hSL hmk w1 w2 h9 h41 (fun A hA => ?_)))
  have hbA : bnd A := by
    unfold bnd
    rw [hA.1 234 (by decide), hA.1 235 (by decide)]
    exact hb
  have key : ∀ k : Nat, k + 96 ≤ 192 → ∀ o, o ≠ 29 → cpR A 243 k 29 k 96 o = A o := fun k _ o ho => by
    funext j
    rw [cpR_if, if_neg (fun z => ho z.1)]
  rcases hm with rfl | rfl
  · refine And.intro ⟨by decide, by decide, by decide, by decide, by decide⟩ (And.intro rfl ?_)
    rw [show cpR (cA A) 243 ((0 : Int) * 96).toNat 29 ((0 : Int) * 96).toNat (96 : Int).toNat = cA (cpR A 243 0 29 0 96) from cp_29]
    refine hP _ _ ⟨fun o ho => ?_, fun o ho h2 => ?_, fun k hk => ?_, fun k hk => ?_, ?_, rfl⟩
    · simp only [up2_row ho]
    · rw [key 0 (by decide) o h2]
      exact hA.1 o (by omega)
    · rw [cpR_if, if_pos ⟨rfl, by omega, by omega⟩, if_pos rfl, show 0 + (k - 0) = k by omega]
      exact (hA.2 k hk).1
    · rw [cpR_if, if_neg (by omega), if_pos rfl, hA.1 29 (by decide)]
    · unfold bnd
      rw [key 0 (by decide) 234 (by decide), key 0 (by decide) 235 (by decide)]
      exact hbA
  · refine And.intro ⟨by decide, by decide, by decide, by decide, by decide⟩ (And.intro rfl ?_)
    rw [show cpR (cA A) 243 ((1 : Int) * 96).toNat 29 ((1 : Int) * 96).toNat (96 : Int).toNat = cA (cpR A 243 96 29 96 96) from cp_29]
    refine hP _ _ ⟨fun o ho => ?_, fun o ho h2 => ?_, fun k hk => ?_, fun k hk => ?_, ?_, rfl⟩
    · simp only [up2_row ho]
    · rw [key 96 (by decide) o h2]
      exact hA.1 o (by omega)
    · rw [cpR_if, if_neg (by omega), if_neg (by decide), hA.1 29 (by decide)]
    · rw [cpR_if, if_pos ⟨rfl, by omega, by omega⟩, if_neg (by decide), show 96 + (96 + k - 96) = 96 + k by omega]
      exact (hA.2 k hk).2
    · unfold bnd
      rw [key 96 (by decide) 234 (by decide), key 96 (by decide) 235 (by decide)]
      exact hbA
end Al
