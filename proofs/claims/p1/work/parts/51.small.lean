/-! the class's weighBy and useMark -/
section Sm
variable {scL : Nat} {scX : Nat → Int} {d : Nat} {fi : tF} {fr : tR} {ai : tF} {al : tL} {P : ot}
theorem c_weighBy {a b : Int} (hP : P (.inl none) (up2 (up2 fi 233 11 a) 233 12 b) fr ai al) : Call 1 scL scX (d + 1) 40 [.inr (.inl (some 233)), .inl a, .inl b] 244 fi fr ai al 244 P := by
  refine ⟨⟨Nat.le_refl _, rfl⟩, rc_go [] 10 ?_⟩
  exact And.intro rfl hP
theorem c_useMark {a : Int} (hP : P (.inl none) (up2 fi 233 10 a) fr ai al) : Call 1 scL scX (d + 1) 39 [.inr (.inl (some 233)), .inl a] 244 fi fr ai al 244 P := by
  refine ⟨⟨Nat.le_refl _, rfl⟩, rc_go [] 10 ?_⟩
  exact And.intro rfl hP
end Sm
