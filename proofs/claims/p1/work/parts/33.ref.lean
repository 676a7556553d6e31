/-! the reference's small methods, on any heap that holds the fresh settings -/
section Ref1
variable {md scL : Nat} {scX : Nat → Int} {d N : Nat} {fi : tF} {fr : tR} {ai : tF} {al : tL} {P : ot}
theorem c_in {v lo hi : Int} (rv : rg v) (rl : rg lo) (rh : rg hi) (hP : P (.inl (some (.inl (if lo ≤ v ∧ v ≤ hi then 1 else 0)))) fi fr ai al) : Call md scL scX (d + 1) 128 [.inl v, .inl lo, .inl hi] N fi fr ai al N P := by
  refine ⟨⟨Nat.le_refl _, rfl⟩, rc_go [] 12 ?_⟩
  refine And.intro ⟨rv, rl⟩ (And.intro (fun h => ?_) (fun h => ?_))
  · refine And.intro (Or.inl rfl) (And.intro rfl ?_)
    rw [if_neg (by omega)] at hP
    exact hP
  · refine And.intro ⟨rv, rh⟩ (And.intro (fun h2 => ?_) (fun h2 => ?_))
    · refine And.intro (Or.inl rfl) (And.intro rfl ?_)
      rw [if_neg (by omega)] at hP
      exact hP
    · refine And.intro (Or.inr rfl) (And.intro rfl ?_)
      rw [if_pos (by omega)] at hP
      exact hP
theorem c_less {a b : Int} (ra : rg a) (rb : rg b) (hP : P (.inl (some (.inl (if a < b then a else b)))) fi fr ai al) : Call md scL scX (d + 1) 149 [.inl a, .inl b] N fi fr ai al N P := by
  refine ⟨⟨Nat.le_refl _, rfl⟩, rc_go [] 12 ?_⟩
  refine And.intro ⟨ra, rb⟩ (And.intro (fun h => ?_) (fun h => ?_))
  · refine And.intro rfl ?_
    rw [if_neg (by omega)] at hP
    exact hP
  · refine And.intro rfl ?_
    rw [if_pos (by omega)] at hP
    exact hP
theorem c_state {u l w : Int} (hP : P (.inl (some (.inl ((u * 41 + l) * 13 + w)))) fi fr ai al) : Call md scL scX (d + 1) 162 [.inl u, .inl l, .inl w] N fi fr ai al N P := by
  refine ⟨⟨Nat.le_refl _, rfl⟩, rc_go [] 14 ?_⟩
  exact And.intro rfl hP
end Ref1
