/-! the class's Solver with the fresh settings: its small methods, and one place weighed. Setting is cell 3, Solver cell 233; near is cell nr, far cell fa -/
def cA (ai : tF) : tF := fun o k => bif Nat.beq o 4 then 20 else bif Nat.beq o 5 then 5 else bif Nat.beq o 6 then 1 else bif Nat.beq o 7 then 10 else bif Nat.beq o 14 then 2 else bif Nat.beq o 15 then 3 else ai o k
def cF (nr fa : Nat) (fr : tR) : tR := fun o k => bif Nat.beq o 233 then (bif Nat.beq k 0 then some nr else bif Nat.beq k 1 then some fa else bif Nat.beq k 9 then some 3 else frB 233 k) else bif Nat.beq o 0 then (bif Nat.beq k 10 then some 233 else frB 0 k) else bif Nat.ble o 53 then frB o k else fr o k
theorem cA_up {ai : tF} {o k : Nat} {v : Int} (h : Nat.ble 16 o = true) : up2 (cA ai) o k v = cA (up2 ai o k v) := by
  have h := Nat.le_of_ble_eq_true h
  funext i j
  unfold cA
  rw [up2_if, up2_if]
  by_cases hc : i = o ∧ j = k
  · obtain ⟨rfl, rfl⟩ := hc
    have e : ∀ c, c < 16 → Nat.beq i c = false := fun c hc => by
      cases e : Nat.beq i c
      · rfl
      · have := Nat.eq_of_beq_eq_true e
        omega
    rw [if_pos ⟨rfl, rfl⟩, if_pos ⟨rfl, rfl⟩, e 4 (by omega), e 5 (by omega), e 6 (by omega), e 7 (by omega), e 14 (by omega), e 15 (by omega)]; rfl
  · rw [if_neg hc, if_neg hc]
/-- the rounds over the lower mill's openings: y is what went through before -/
def jB (G : Int → Int) (lo o : Int) : Nat → Int → Int → Int → Int → Int × Int
  | 0, _, _, most, pick => (most, pick)
  | n + 1, p, y, most, pick => if lo ≤ y then (most, pick) else if G (gM p lo) ≤ most then jB G lo o n (p + 1) (gM p lo) most pick else jB G lo o n (p + 1) (gM p lo) (G (gM p lo)) (o * 4 + p)
/-- the rounds over the upper mill's openings -/
def jA (G : Int → Int → Int) (up lo fB : Int) (nB : Nat) : Nat → Int → Int → Int → Int → Int × Int
  | 0, _, _, most, pick => (most, pick)
  | n + 1, o, x, most, pick => if up ≤ x then (most, pick) else jA G up lo fB nB n (o + 1) (gM o up) (jB (G (gM o up)) lo o nB fB (-1) most pick).1 (jB (G (gM o up)) lo o nB fB (-1) most pick).2
def gC (a b : Int) : Int := if a < b then a else b
/-- what lies ahead of a place, by what goes through -/
def gH (uW lW cm : Int) (far : Nat → Int) (up lo x y : Int) : Int := x * uW + y * lW + far (gC 20 (up - x + cm) * 21 + (if lo - y + x < 20 then lo - y + x else 20)).toNat
def Lw (q up lo uW lW nB wB cm most pick x : Int) (x16 x17 x18 x19 x20 x21 : Option av) : List (Option av) := [some (.inr (.inl (some 233))), some (.inl q), some (.inl up), some (.inl lo), some (.inl uW), some (.inl lW), some (.inl 20), some (.inl 20), some (.inl 1), some (.inl 1), some (.inl nB), some (.inl wB), some (.inl cm), some (.inl most), some (.inl pick), some (.inl x), x16, x17, x18, x19, x20, x21]
section Cls1
variable {scL : Nat} {scX : Nat → Int} {d : Nat} {fi : tF} {fr : tR} {ai : tF} {al : tL} {P : ot} {nr fa : Nat}
theorem c_placeOf {u l : Int} (hw : fi 233 13 = 21) (hP : P (.inl (some (.inl (u * 21 + l)))) fi fr ai al) : Call 1 scL scX (d + 1) 43 [.inr (.inl (some 233)), .inl u, .inl l] 244 fi fr ai al 244 P := by
  rw [← hw] at hP
  refine ⟨⟨Nat.le_refl _, rfl⟩, rc_go [] 12 ?_⟩
  exact And.intro rfl hP
def cmB (q : Int) : Int := if q + 1 < 96 then 2 else 0
theorem c_comesB {q : Int} (h0 : 0 ≤ q) (h1 : q < 96) (hP : P (.inl (some (.inl (cmB q)))) fi (cF nr fa fr) (cA ai) al) : Call 1 scL scX (d + 1) 44 [.inr (.inl (some 233)), .inl q] 244 fi (cF nr fa fr) (cA ai) al 244 P := by
  refine ⟨⟨Nat.le_refl _, rfl⟩, rc_go [] 20 ?_⟩
  unfold cmB at hP
  refine And.intro ⟨rg_sm (by omega) (by omega), ⟨by decide, by decide⟩⟩ (And.intro (fun h => ?_) (fun h => ?_))
  · rw [if_neg (by omega)] at hP
    exact And.intro rfl hP
  · rw [if_pos (by omega)] at hP
    refine And.intro ⟨by omega, by show q + 1 < 96; omega⟩ ?_
    exact And.intro rfl hP
/-- the longs of picks behind a pick -/
def pkB (old : Int64) (pl pick : Int) : Int64 := (old &&& ((Int64.ofNat 15 <<< ((Int32.ofInt (pl.tmod 16 * 4)).toInt64 &&& 63)) ^^^ Int64.ofNat 18446744073709551615)) ||| ((Int32.ofInt pick).toInt64 <<< ((Int32.ofInt (pl.tmod 16 * 4)).toInt64 &&& 63))
theorem td16 {q c : Int} (hq : 0 ≤ q ∧ q < 96) (h0 : 0 ≤ c) (h1 : c < 441) : inb (q * 106 + c.tdiv 16) 10176 := by
  rw [Int.tdiv_eq_ediv_of_nonneg h0]
  exact ⟨by omega, by show q * 106 + c / 16 < 10176; omega⟩
theorem c_keepPick {q c pick : Int} (hq : 0 ≤ q ∧ q < 96) (h0 : 0 ≤ c) (h1 : c < 441) (hP : P (.inl none) fi (cF nr fa fr) ai (up2 al 236 (q * 106 + c.tdiv 16).toNat (pkB (al 236 (q * 106 + c.tdiv 16).toNat) c pick))) : Call 1 scL scX (d + 1) 47 [.inr (.inl (some 233)), .inl q, .inl c, .inl pick] 244 fi (cF nr fa fr) ai al 244 P := by
  refine ⟨⟨Nat.le_refl _, rfl⟩, rc_go [] 50 ?_⟩
  refine And.intro ⟨rg_sm (by omega) (by omega), ⟨by decide, by decide⟩, by decide⟩ ?_
  refine And.intro ⟨rg_sm (by omega) (by omega), ⟨by decide, by decide⟩, by decide⟩ ?_
  refine And.intro (td16 hq h0 h1) ?_
  refine And.intro (td16 hq h0 h1) ?_
  exact And.intro rfl hP
end Cls1
