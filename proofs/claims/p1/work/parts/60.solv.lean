/-! the class's Solver is made; freeBoth of a new one; freeOne; pickAt -/
def cF0 (fr : tR) : tR := fun o k => bif Nat.beq o 233 then (bif Nat.beq k 0 then some 234 else bif Nat.beq k 1 then some 235 else bif Nat.beq k 9 then none else frB 233 k) else bif Nat.beq o 0 then (bif Nat.beq k 10 then some 233 else frB 0 k) else bif Nat.ble o 53 then frB o k else fr o k
def clS {α : Type} (f : Nat → Nat → α) (v : α) : Nat → Nat → α := clr (clr (clr (clr (clr (clr (clr (clr (clr (clr f 234 v) 235 v) 236 v) 237 v) 238 v) 239 v) 240 v) 241 v) 242 v) 243 v
def frN (fr : tR) : tR := up2 (up2 (up2 (up2 (up2 (up2 (up2 (up2 (up2 (up2 (up2 (clr fr 233 none) 233 0 (some 234)) 233 1 (some 235)) 233 2 (some 236)) 233 3 (some 237)) 233 4 (some 238)) 233 5 (some 239)) 233 6 (some 240)) 233 7 (some 241)) 233 8 (some 242)) 233 14 (some 243)) 0 10 (some 233)
set_option maxRecDepth 100000 in
theorem frN_ck : ((List.range 244).all fun i => bif Nat.ble 10 (shp 1 i).1 then (List.range (shp 1 i).2).all (fun k => oqN (frN frB i k) (cF0 frB i k)) else true) = true := by decide +kernel
theorem clr_row {α : Type} {f : Nat → Nat → α} {o o' : Nat} {v : α} (h : o' ≠ o) : clr f o v o' = f o' := by
  funext j
  unfold clr
  have e : Nat.beq o' o = false := by
    cases e : Nat.beq o' o
    · rfl
    · exact absurd (Nat.eq_of_beq_eq_true e) h
  rw [e]; rfl
theorem clS_row {α : Type} {f : Nat → Nat → α} {o : Nat} {v : α} (h : o < 234) : clS f v o = f o := by
  unfold clS
  rw [clr_row (by omega), clr_row (by omega), clr_row (by omega), clr_row (by omega), clr_row (by omega), clr_row (by omega), clr_row (by omega), clr_row (by omega), clr_row (by omega), clr_row (by omega)]
section Solv
variable {scL : Nat} {scX : Nat → Int} {d : Nat} {fi : tF} {fr : tR} {ai : tF} {al : tL} {P : ot} {nr fa : Nat}
set_option maxRecDepth 4096 in
theorem c_slvInit (hP : P (.inl none) fi (up2 (up2 (up2 (up2 (up2 (up2 (up2 (up2 (up2 (up2 fr 233 0 (some 234)) 233 1 (some 235)) 233 2 (some 236)) 233 3 (some 237)) 233 4 (some 238)) 233 5 (some 239)) 233 6 (some 240)) 233 7 (some 241)) 233 8 (some 242)) 233 14 (some 243)) (clS ai 0) (clS al 0)) : Call 1 scL scX (d + 1) 36 [.inr (.inl (some 233))] 234 fi fr ai al 244 P := by
  refine ⟨⟨by decide, rfl⟩, rc_go [] 60 ?_⟩
  refine And.intro ⟨rfl, by decide⟩ ?_
  refine And.intro ⟨rfl, by decide⟩ ?_
  refine And.intro ⟨rfl, by decide⟩ ?_
  refine And.intro ⟨rfl, by decide⟩ ?_
  refine And.intro ⟨rfl, by decide⟩ ?_
  refine And.intro ⟨rfl, by decide⟩ ?_
  refine And.intro ⟨rfl, by decide⟩ ?_
  refine And.intro ⟨rfl, by decide⟩ ?_
  refine And.intro ⟨rfl, by decide⟩ ?_
  refine And.intro ⟨rfl, by decide⟩ ?_
  exact And.intro rfl hP
theorem c_ready (hP : P (.inl (some (.inr (.inl (some 233))))) (clr fi 233 0) (cF0 frB) (clS ai 0) (clS al 0)) : Call 1 scL scX (d + 2) 114 [.inr (.inl (some 0))] 233 fi frB ai al 244 P := by
  have key : Rc 1 (Call 1 scL scX (d + 1)) (mt 114) P 244 scL scX 18 [some (.inr (.inl (some 0)))] [] 244 (clr fi 233 0) (frN frB) (clS ai 0) (clS al 0) := by
    refine rc_ext (fi' := clr fi 233 0) (fr' := cF0 frB) (ai' := clS ai 0) (al' := clS al 0) ?_ ?_
    · intro i hi k hk
      refine ⟨fun q => ⟨rfl, ?_⟩, fun _ => rfl, fun _ => rfl⟩
      have c := List.all_eq_true.mp frN_ck i (List.mem_range.mpr hi)
      rw [Nat.ble_eq_true_of_le q] at c
      exact oqN_ok (List.all_eq_true.mp (c : ((List.range (shp 1 i).2).all fun k => oqN (frN frB i k) (cF0 frB i k)) = true) k (List.mem_range.mpr hk))
    · refine rc_go [] 10 ?_
      exact And.intro rfl hP
  refine ⟨⟨by decide, rfl⟩, rc_go [18] 20 ?_⟩
  refine And.intro (fun h => absurd rfl h) (fun _ => ?_)
  refine And.intro (by decide) ?_
  refine Exists.intro 244 (And.intro ⟨by decide, by decide⟩ (c_slvInit ?_))
  exact key
theorem c_ready2 (hP : P (.inl (some (.inr (.inl (some 233))))) fi (cF nr fa fr) ai al) : Call 1 scL scX (d + 1) 114 [.inr (.inl (some 0))] 244 fi (cF nr fa fr) ai al 244 P := by
  refine ⟨⟨Nat.le_refl _, rfl⟩, rc_go [] 12 ?_⟩
  refine And.intro (fun _ => ?_) (fun h => nomatch h)
  exact And.intro rfl hP
theorem cF0_by : up2 (cF0 fr) 233 9 (some 3) = cF 234 235 fr := by
  funext i j
  rw [up2_if]
  unfold cF0 cF
  by_cases h : i = 233 ∧ j = 9
  · rw [if_pos h, h.1, h.2]; rfl
  · rw [if_neg h]
    by_cases hi : i = 233
    · subst hi
      have e1 : Nat.beq j 9 = false := by
        cases e : Nat.beq j 9
        · rfl
        · exact absurd ⟨rfl, Nat.eq_of_beq_eq_true e⟩ h
      rw [e1]; rfl
    · have e : Nat.beq i 233 = false := by
        cases e : Nat.beq i 233
        · rfl
        · exact absurd (Nat.eq_of_beq_eq_true e) hi
      rw [e]; rfl
theorem c_freeBoth0 (hP : P (.inl none) (up2 fi 233 10 (fi 3 6)) (cF 234 235 fr) (cA (fN (fN ai 237 192 0) 238 192 3)) al) : Call 1 scL scX (d + 2) 37 [.inr (.inl (some 233)), .inr (.inl (some 3))] 244 fi (cF0 fr) (cA ai) al 244 P := by
  rw [← cp_wd, ← fN_cA (by decide), ← cF0_by (fr := fr)] at hP
  refine ⟨⟨Nat.le_refl _, rfl⟩, rc_go [] 30 ?_⟩
  refine Exists.intro 244 (And.intro ⟨Nat.le_refl _, Nat.le_refl _⟩ (c_fill_237 ?_))
  refine And.intro ⟨by decide, by decide, by decide, by decide, by decide⟩ ?_
  exact And.intro rfl hP
theorem c_pickAt {q c pick : Int} (hq : 0 ≤ q ∧ q < 96) (h0 : 0 ≤ c) (h1 : c < 441) (hr : pkR (al 236 (q * 106 + c.tdiv 16).toNat) c = pick) (hP : P (.inl (some (.inl pick))) fi (cF nr fa fr) ai al) : Call 1 scL scX (d + 1) 48 [.inr (.inl (some 233)), .inl q, .inl c] 244 fi (cF nr fa fr) ai al 244 P := by
  subst hr
  refine ⟨⟨Nat.le_refl _, rfl⟩, rc_go [] 40 ?_⟩
  refine And.intro ⟨rg_sm (by omega) (by omega), ⟨by decide, by decide⟩, by decide⟩ ?_
  refine And.intro ⟨rg_sm (by omega) (by omega), ⟨by decide, by decide⟩, by decide⟩ ?_
  refine And.intro (td16 hq h0 h1) ?_
  exact And.intro rfl hP
end Solv
