/-! the class's bound: one round of its loop, and the loop -/
def g0 (x : Int) : Int := if 0 < x then x else 0
def Lb (q : Int) (x6 x7 x8 x9 x10 x11 x12 : Option av) : List (Option av) := [some (.inr (.inl (some 233))), some (.inl 20), some (.inl 20), some (.inl 1), some (.inl 1), some (.inl q), x6, x7, x8, x9, x10, x11, x12]
def onB (q : Int) (ai : tF) : tF := up2 (up2 (up2 (up2 ai 239 (q + 1).toNat (gC 20 (g0 (ai 239 q.toNat - ai 238 q.toNat * 1) + cmB q))) 240 (q + 1).toNat (gC 20 (g0 (ai 240 q.toNat - ai 237 q.toNat * 1) + cmB q))) 241 (q + 1).toNat (gC 20 (g0 (ai 241 q.toNat - ai 238 (96 + q).toNat * 1) + gC (ai 239 q.toNat) (ai 237 q.toNat * 1)))) 242 (q + 1).toNat (gC 20 (g0 (ai 242 q.toNat - ai 237 (96 + q).toNat * 1) + gC (ai 240 q.toNat) (ai 238 q.toNat * 1)))
theorem g0_b {x : Int} (h : x ≤ 20) : 0 ≤ g0 x ∧ g0 x ≤ 20 := by unfold g0; split <;> omega
section Bnd
variable {scL : Nat} {scX : Nat → Int} {d : Nat} {fi : tF} {fr : tR} {al : tL} {P : ot} {nr fa : Nat} {K : tF → Int → Prop}
theorem bd_2 {q : Int} (h0 : 0 ≤ q) (h1 : q + 1 < 96) {ai : tF} {c6 c7 c8 c9 c10 c11 c12 : Int} (b6 : 0 ≤ c6 ∧ c6 ≤ 50) (b7 : 0 ≤ c7 ∧ c7 ≤ 50) (b8 : 0 ≤ c8 ∧ c8 ≤ 50) (b9 : 0 ≤ c9 ∧ c9 ≤ 50) (b10 : 0 ≤ c10 ∧ c10 ≤ 50) (b11 : 0 ≤ c11 ∧ c11 ≤ 50) (b12 : 0 ≤ c12 ∧ c12 ≤ 50)
    (hk : Rc 1 (Call 1 scL scX (d + 1)) (mt 45) P 244 scL scX 131 (Lb (q + 1) (some (.inl c6)) (some (.inl c7)) (some (.inl c8)) (some (.inl c9)) (some (.inl c10)) (some (.inl c11)) (some (.inl c12))) [] 244 fi (cF nr fa fr) (cA (up2 (up2 (up2 (up2 ai 239 (q + 1).toNat (gC 20 (c7 + c6))) 240 (q + 1).toNat (gC 20 (c11 + c6))) 241 (q + 1).toNat (gC 20 (c8 + c9))) 242 (q + 1).toNat (gC 20 (c12 + c10)))) al) :
    Rc 1 (Call 1 scL scX (d + 1)) (mt 45) P 244 scL scX 290 (Lb q (some (.inl c6)) (some (.inl c7)) (some (.inl c8)) (some (.inl c9)) (some (.inl c10)) (some (.inl c11)) (some (.inl c12))) [] 244 fi (cF nr fa fr) (cA ai) al := by
  have r20 : rg 20 := ⟨by decide, by decide⟩
  have hi : inb (q + 1) 96 := ⟨by omega, by show q + 1 < 96; omega⟩
  rw [← cA_up rfl, ← cA_up rfl, ← cA_up rfl, ← cA_up rfl] at hk
  refine rc_go [131] 60 ?_
  refine And.intro ⟨r20, rg_sm (x := c7 + c6) (by omega) (by omega)⟩ (And.intro hi ?_)
  refine And.intro ⟨r20, rg_sm (x := c11 + c6) (by omega) (by omega)⟩ (And.intro hi ?_)
  refine And.intro ⟨r20, rg_sm (x := c8 + c9) (by omega) (by omega)⟩ (And.intro hi ?_)
  refine And.intro ⟨r20, rg_sm (x := c12 + c10) (by omega) (by omega)⟩ (And.intro hi ?_)
  exact hk
set_option maxRecDepth 4096 in
set_option maxHeartbeats 4000000 in
theorem bd_1 {q : Int} (h0 : 0 ≤ q) (h1 : q + 1 < 96) {ai : tF} {x6 x7 x8 x9 x10 x11 x12 : Option av}
    (e1 : 0 ≤ ai 239 q.toNat ∧ ai 239 q.toNat ≤ 20) (e2 : 0 ≤ ai 240 q.toNat ∧ ai 240 q.toNat ≤ 20) (e3 : 0 ≤ ai 241 q.toNat ∧ ai 241 q.toNat ≤ 20) (e4 : 0 ≤ ai 242 q.toNat ∧ ai 242 q.toNat ≤ 20) (f1 : 0 ≤ ai 237 q.toNat ∧ ai 237 q.toNat ≤ 3) (f2 : 0 ≤ ai 238 q.toNat ∧ ai 238 q.toNat ≤ 3) (f3 : 0 ≤ ai 237 (96 + q).toNat ∧ ai 237 (96 + q).toNat ≤ 3) (f4 : 0 ≤ ai 238 (96 + q).toNat ∧ ai 238 (96 + q).toNat ≤ 3)
    (hk : Rc 1 (Call 1 scL scX (d + 1)) (mt 45) P 244 scL scX 290 (Lb q (some (.inl (cmB q))) (some (.inl (g0 (ai 239 q.toNat - ai 238 q.toNat * 1)))) (some (.inl (g0 (ai 241 q.toNat - ai 238 (96 + q).toNat * 1)))) (some (.inl (gC (ai 239 q.toNat) (ai 237 q.toNat * 1)))) (some (.inl (gC (ai 240 q.toNat) (ai 238 q.toNat * 1)))) (some (.inl (g0 (ai 240 q.toNat - ai 237 q.toNat * 1)))) (some (.inl (g0 (ai 242 q.toNat - ai 237 (96 + q).toNat * 1))))) [] 244 fi (cF nr fa fr) (cA ai) al) :
    Rc 1 (Call 1 scL scX (d + 1)) (mt 45) P 244 scL scX 131 (Lb q x6 x7 x8 x9 x10 x11 x12) [] 244 fi (cF nr fa fr) (cA ai) al := by
  have r0 : rg 0 := ⟨by decide, by decide⟩
  have i1 : inb q 96 := ⟨h0, by show q < 96; omega⟩
  have i2 : inb q 192 := ⟨h0, by show q < 192; omega⟩
  have i3 : inb (96 + q) 192 := ⟨by omega, by show 96 + q < 192; omega⟩
  refine rc_go [290] 120 ?_
  refine And.intro ⟨rg_sm (by omega) (by omega), ⟨by decide, by decide⟩⟩ (And.intro (fun h => absurd (show (96 : Int) ≤ q + 1 from h) (by omega)) (fun _ => ?_))
  refine Exists.intro 244 (And.intro ⟨Nat.le_refl _, Nat.le_refl _⟩ (c_comesB h0 (by omega) ?_))
  refine And.intro i1 (And.intro i2 (And.intro ⟨r0, rg_sm (x := ai 239 q.toNat - ai 238 q.toNat * 1) (by omega) (by omega)⟩ ?_))
  refine And.intro i1 (And.intro i3 (And.intro ⟨r0, rg_sm (x := ai 241 q.toNat - ai 238 (96 + q).toNat * 1) (by omega) (by omega)⟩ ?_))
  refine And.intro i1 (And.intro i2 (And.intro ⟨rg_sm (x := ai 239 q.toNat) (by omega) (by omega), rg_sm (x := ai 237 q.toNat * 1) (by omega) (by omega)⟩ ?_))
  refine And.intro i1 (And.intro i2 (And.intro ⟨rg_sm (x := ai 240 q.toNat) (by omega) (by omega), rg_sm (x := ai 238 q.toNat * 1) (by omega) (by omega)⟩ ?_))
  refine And.intro i1 (And.intro i2 (And.intro ⟨r0, rg_sm (x := ai 240 q.toNat - ai 237 q.toNat * 1) (by omega) (by omega)⟩ ?_))
  refine And.intro i1 (And.intro i3 (And.intro ⟨r0, rg_sm (x := ai 242 q.toNat - ai 237 (96 + q).toNat * 1) (by omega) (by omega)⟩ ?_))
  exact hk
theorem bd_l (hKb : ∀ ai q, 0 ≤ q → q + 1 < 96 → K ai q → (0 ≤ ai 239 q.toNat ∧ ai 239 q.toNat ≤ 20) ∧ (0 ≤ ai 240 q.toNat ∧ ai 240 q.toNat ≤ 20) ∧ (0 ≤ ai 241 q.toNat ∧ ai 241 q.toNat ≤ 20) ∧ (0 ≤ ai 242 q.toNat ∧ ai 242 q.toNat ≤ 20) ∧ (0 ≤ ai 237 q.toNat ∧ ai 237 q.toNat ≤ 3) ∧ (0 ≤ ai 238 q.toNat ∧ ai 238 q.toNat ≤ 3) ∧ (0 ≤ ai 237 (96 + q).toNat ∧ ai 237 (96 + q).toNat ≤ 3) ∧ (0 ≤ ai 238 (96 + q).toNat ∧ ai 238 (96 + q).toNat ≤ 3))
    (hK : ∀ ai q, 0 ≤ q → q + 1 < 96 → K ai q → K (onB q ai) (q + 1)) (hP : ∀ ai', K ai' 95 → P (.inl none) fi (cF nr fa fr) (cA ai') al) :
    ∀ (n : Nat) (q : Int) (ai : tF) (x6 x7 x8 x9 x10 x11 x12 : Option av), 0 ≤ q → q + n = 95 → K ai q → Rc 1 (Call 1 scL scX (d + 1)) (mt 45) P 244 scL scX 131 (Lb q x6 x7 x8 x9 x10 x11 x12) [] 244 fi (cF nr fa fr) (cA ai) al := by
  intro n
  induction n with
  | zero =>
    intro q ai x6 x7 x8 x9 x10 x11 x12 h0 hn hk
    have e : q = 95 := by omega
    subst e
    refine rc_go [] 12 ?_
    exact And.intro ⟨rg_sm (by omega) (by omega), ⟨by decide, by decide⟩⟩ (And.intro (fun _ => And.intro rfl (hP ai hk)) (fun h => absurd (by decide : (96 : Int) ≤ 95 + 1) h))
  | succ n ih =>
    intro q ai x6 x7 x8 x9 x10 x11 x12 h0 hn hk
    have h1 : q + 1 < 96 := by omega
    obtain ⟨e1, e2, e3, e4, f1, f2, f3, f4⟩ := hKb ai q h0 h1 hk
    have bc : 0 ≤ cmB q ∧ cmB q ≤ 2 := by unfold cmB; split <;> omega
    have g1 := g0_b (x := ai 239 q.toNat - ai 238 q.toNat * 1) (by omega)
    have g2 := g0_b (x := ai 241 q.toNat - ai 238 (96 + q).toNat * 1) (by omega)
    have g3 := g0_b (x := ai 240 q.toNat - ai 237 q.toNat * 1) (by omega)
    have g4 := g0_b (x := ai 242 q.toNat - ai 237 (96 + q).toNat * 1) (by omega)
    have g5 := gC_b (a := ai 239 q.toNat) (b := ai 237 q.toNat * 1) (by omega) e1.1
    have g6 := gC_b (a := ai 240 q.toNat) (b := ai 238 q.toNat * 1) (by omega) e2.1
    refine bd_1 h0 h1 e1 e2 e3 e4 f1 f2 f3 f4 ?_
    refine bd_2 h0 h1 ⟨by omega, by omega⟩ ⟨by omega, by omega⟩ ⟨by omega, by omega⟩ ⟨by omega, by omega⟩ ⟨by omega, by omega⟩ ⟨by omega, by omega⟩ ⟨by omega, by omega⟩ ?_
    exact ih (q + 1) (onB q ai) _ _ _ _ _ _ _ (by omega) (by omega) (hK ai q h0 h1 hk)
end Bnd
