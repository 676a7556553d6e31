/-! the class's mostWorth as a whole -/
section Most
variable {scL : Nat} {scX : Nat → Int} {d : Nat} {fi : tF} {fr : tR} {al : tL} {P : ot} {nr fa : Nat} {K : tF → Int → Prop}
variable {r7 r8 r9 s0 s1 s2 : Nat → Int} {J : Int → Nat → Nat → tF → tL → Prop}
theorem mw_end {f : tF} (hw : f 233 13 = 21) {ai : tF} {al : tL} {nr fa : Nat} (hnf : nfo nr fa) {x2 x3 : Option av} (b1 : 0 ≤ ai 239 0 ∧ ai 239 0 ≤ 20) (b2 : 0 ≤ ai 241 0 ∧ ai 241 0 ≤ 20) (hP : P (.inl (some (.inl (ai fa (ai 239 0 * 21 + ai 241 0).toNat)))) f (cF nr fa fr) (cA ai) al) :
    Rc 1 (Call 1 scL scX (d + 2)) (mt 41) P 244 scL scX 82 (La (-1) x2 x3) [] 244 f (cF nr fa fr) (cA ai) al := by
  have i9 : inb 0 96 := ⟨by decide, by decide⟩
  refine rc_go [] 30 ?_
  refine And.intro i9 (And.intro i9 ?_)
  refine Exists.intro 244 (And.intro ⟨Nat.le_refl _, Nat.le_refl _⟩ (c_placeOf (u := ai 239 0) (l := ai 241 0) hw ?_))
  rcases hnf with ⟨rfl, rfl⟩ | ⟨rfl, rfl⟩
  · refine And.intro ⟨by omega, by show ai 239 0 * 21 + ai 241 0 < 1681; omega⟩ ?_
    exact And.intro rfl hP
  · refine And.intro ⟨by omega, by show ai 239 0 * 21 + ai 241 0 < 1681; omega⟩ ?_
    exact And.intro rfl hP
/-- the head: bound, then the far row is made empty; hq is the run over all quarters -/
theorem c_mostHead {ai : tF} (hnf : nfo nr fa) (hKb : ∀ ai q, 0 ≤ q → q + 1 < 96 → K ai q → (0 ≤ ai 239 q.toNat ∧ ai 239 q.toNat ≤ 20) ∧ (0 ≤ ai 240 q.toNat ∧ ai 240 q.toNat ≤ 20) ∧ (0 ≤ ai 241 q.toNat ∧ ai 241 q.toNat ≤ 20) ∧ (0 ≤ ai 242 q.toNat ∧ ai 242 q.toNat ≤ 20) ∧ (0 ≤ ai 237 q.toNat ∧ ai 237 q.toNat ≤ 3) ∧ (0 ≤ ai 238 q.toNat ∧ ai 238 q.toNat ≤ 3) ∧ (0 ≤ ai 237 (96 + q).toNat ∧ ai 237 (96 + q).toNat ≤ 3) ∧ (0 ≤ ai 238 (96 + q).toNat ∧ ai 238 (96 + q).toNat ≤ 3))
    (hK : ∀ ai q, 0 ≤ q → q + 1 < 96 → K ai q → K (onB q ai) (q + 1)) (h0 : K (st0B ai) 0)
    (hq : ∀ ai', K ai' 95 → Rc 1 (Call 1 scL scX (d + 2)) (mt 41) P 244 scL scX 15 (La 95 none none) [] 244 (up2 fi 233 13 21) (cF nr fa fr) (cA (fN ai' fa 1681 0)) al) :
    Call 1 scL scX (d + 3) 41 [.inr (.inl (some 233))] 244 fi (cF nr fa fr) (cA ai) al 244 P := by
  refine ⟨⟨Nat.le_refl _, rfl⟩, rc_go [15] 20 ?_⟩
  refine Exists.intro 244 (And.intro ⟨Nat.le_refl _, Nat.le_refl _⟩ (c_bound hKb hK h0 (fun ai' hk => ?_)))
  have h := hq ai' hk
  rcases hnf with ⟨rfl, rfl⟩ | ⟨rfl, rfl⟩
  · rw [← fN_cA (by decide)] at h
    refine Exists.intro 244 (And.intro ⟨Nat.le_refl _, Nat.le_refl _⟩ (c_fill_235 ?_))
    exact h
  · rw [← fN_cA (by decide)] at h
    refine Exists.intro 244 (And.intro ⟨Nat.le_refl _, Nat.le_refl _⟩ (c_fill_234 ?_))
    exact h
end Most
