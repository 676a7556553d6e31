/-! the class's asItMay: plans is cell 29 -/
section May
variable {scL : Nat} {scX : Nat → Int} {d N : Nat} {fi : tF} {fr : tR} {ai : tF} {al : tL} {P : ot} {nr fa : Nat}
theorem c_asItMay {k : Int} (hk : 0 ≤ k ∧ k < 192) (hp : 0 ≤ ai 29 k.toNat ∧ ai 29 k.toNat ≤ 3) (hP : P (.inl (some (.inl (ai 29 k.toNat)))) fi (cF nr fa fr) (cA ai) al) : Call 1 scL scX (d + 1) 32 [.inr (.inl (some 3)), .inr (.inl (some 29)), .inl k] N fi (cF nr fa fr) (cA ai) al N P := by
  refine ⟨⟨Nat.le_refl _, rfl⟩, rc_go [] 14 ?_⟩
  refine And.intro ⟨hk.1, by show k < 192; omega⟩ (And.intro ⟨hk.1, by show k < 192; omega⟩ ?_)
  refine And.intro ⟨rg_sm (x := ai 29 k.toNat) (by omega) (by omega), show rg 3 from ⟨by decide, by decide⟩⟩ ?_
  have e : (if ai 29 k.toNat < 3 then ai 29 k.toNat else 3) = ai 29 k.toNat := by
    split
    · rfl
    · omega
  rw [← e] at hP
  exact And.intro rfl hP
end May
