/-! the class's bound as a whole -/
def st0B (ai : tF) : tF := up2 (up2 (up2 (up2 ai 239 0 (gC 20 (10 + 2))) 240 0 (gC 20 (10 + 2))) 241 0 (gC 20 10)) 242 0 (gC 20 10)
section Bnd2
variable {scL : Nat} {scX : Nat → Int} {d : Nat} {fi : tF} {fr : tR} {al : tL} {P : ot} {nr fa : Nat} {K : tF → Int → Prop}
set_option maxRecDepth 4096 in
set_option maxHeartbeats 4000000 in
theorem c_bound {ai : tF} (hKb : ∀ ai q, 0 ≤ q → q + 1 < 96 → K ai q → (0 ≤ ai 239 q.toNat ∧ ai 239 q.toNat ≤ 20) ∧ (0 ≤ ai 240 q.toNat ∧ ai 240 q.toNat ≤ 20) ∧ (0 ≤ ai 241 q.toNat ∧ ai 241 q.toNat ≤ 20) ∧ (0 ≤ ai 242 q.toNat ∧ ai 242 q.toNat ≤ 20) ∧ (0 ≤ ai 237 q.toNat ∧ ai 237 q.toNat ≤ 3) ∧ (0 ≤ ai 238 q.toNat ∧ ai 238 q.toNat ≤ 3) ∧ (0 ≤ ai 237 (96 + q).toNat ∧ ai 237 (96 + q).toNat ≤ 3) ∧ (0 ≤ ai 238 (96 + q).toNat ∧ ai 238 (96 + q).toNat ≤ 3))
    (hK : ∀ ai q, 0 ≤ q → q + 1 < 96 → K ai q → K (onB q ai) (q + 1)) (h0 : K (st0B ai) 0) (hP : ∀ ai', K ai' 95 → P (.inl none) (up2 fi 233 13 21) (cF nr fa fr) (cA ai') al) :
    Call 1 scL scX (d + 2) 45 [.inr (.inl (some 233))] 244 fi (cF nr fa fr) (cA ai) al 244 P := by
  have key := bd_l (scL := scL) (scX := scX) (d := d) (fr := fr) hKb hK hP 95 0 (st0B ai) none none none none none none none (by decide) (by decide) h0
  unfold st0B at key
  rw [← cA_up rfl, ← cA_up rfl, ← cA_up rfl, ← cA_up rfl] at key
  have r20 : rg 20 := ⟨by decide, by decide⟩
  have i2 : ∀ k : Int, 0 ≤ k → k < 2 → inb k 2 := fun k h1 h2 => ⟨h1, h2⟩
  have i9 : inb 0 96 := ⟨by decide, by decide⟩
  refine ⟨⟨Nat.le_refl _, rfl⟩, rc_go [131] 90 ?_⟩
  refine And.intro (i2 1 (by decide) (by decide)) ?_
  refine And.intro (i2 0 (by decide) (by decide)) (And.intro (i2 1 (by decide) (by decide)) (And.intro (i2 0 (by decide) (by decide)) (And.intro (i2 1 (by decide) (by decide)) ?_)))
  refine And.intro (i2 0 (by decide) (by decide)) (And.intro i9 ?_)
  refine And.intro ⟨r20, show rg (10 + 2) from ⟨by decide, by decide⟩⟩ (And.intro i9 ?_)
  refine And.intro i9 (And.intro i9 ?_)
  refine And.intro (i2 1 (by decide) (by decide)) (And.intro ⟨r20, show rg 10 from ⟨by decide, by decide⟩⟩ (And.intro i9 ?_))
  refine And.intro i9 (And.intro i9 ?_)
  exact key
end Bnd2
