/-! soonest: the class's goOn -/
def LgO (q U L v uW lW cm mo o : Int) (x10 x11 x12 x13 x14 x15 : Option av) : List (Option av) := [some (.inr (.inl (some 233))), some (.inl q), some (.inl U), some (.inl L), some (.inl v), some (.inl uW), some (.inl lW), some (.inl cm), some (.inl mo), some (.inl o), x10, x11, x12, x13, x14, x15]
section GoOn
variable {scL : Nat} {scX : Nat → Int} {d : Nat} {fi : tF} {fr : tR} {ai : tF} {al : tL} {P : ot} {nr fa : Nat}
variable {q U L v uW lW cm mo o x nu p : Int}
set_option maxRecDepth 4096 in
set_option maxHeartbeats 1000000 in
theorem go_b (hnf : nfo nr fa) (hw : fi 233 13 = 21) (hq : 0 ≤ q ∧ q < 96) (hL : 0 ≤ L ∧ L ≤ 20) (hx : 0 ≤ x ∧ x ≤ 3) (hnu : 0 ≤ nu ∧ nu ≤ 20) (hp : 0 ≤ p ∧ p ≤ 3) (hpw : p ≤ ai 238 (96 + q).toNat) (hpb : ai 238 (96 + q).toNat ≤ 3) {y g : Int} {t : Nat} (hy : y = if L < p * 1 then L else p * 1) (ht : t = (nu * 21 + (if 20 < L - y + x then 20 else L - y + x)).toNat) (hg : g = v + x * uW + y * lW) (hgb : -1000 ≤ g ∧ g ≤ 1000) (hfb : -1 ≤ ai fa t ∧ ai fa t ≤ 1000) (hmo : -1 ≤ mo ∧ mo ≤ 1000) {x13 x14 x15 : Option av}
    (hk : ∀ z, Rc 1 (Call 1 scL scX (d + 1)) (mt 51) P 244 scL scX 156 (LgO q U L v uW lW cm (mX mo g) o (some (.inl x)) (some (.inl nu)) (some (.inl (p + 1))) (some (.inl y)) (some (.inl z)) (some (.inl g))) [] 244 fi (cF nr fa fr) (cA (up2 ai fa t (mX (ai fa t) g))) al) :
    Rc 1 (Call 1 scL scX (d + 1)) (mt 51) P 244 scL scX 156 (LgO q U L v uW lW cm mo o (some (.inl x)) (some (.inl nu)) (some (.inl p)) x13 x14 x15) [] 244 fi (cF nr fa fr) (cA ai) al := by
  have yb : 0 ≤ y ∧ y ≤ 3 ∧ y ≤ L := by rw [hy]; split <;> omega
  have zb : 0 ≤ (if 20 < L - y + x then 20 else L - y + x) ∧ (if 20 < L - y + x then 20 else L - y + x) ≤ 20 := by split <;> omega
  have hk := hk (nu * 21 + (if 20 < L - y + x then 20 else L - y + x))
  have i3 : inb (96 + q) 192 := ⟨by omega, by show 96 + q < 192; omega⟩
  have i2 : inb 1 2 := ⟨by decide, by decide⟩
  have it : inb (nu * 21 + (if 20 < L - y + x then 20 else L - y + x)) 1681 := ⟨by omega, by show nu * 21 + (if 20 < L - y + x then 20 else L - y + x) < 1681; omega⟩
  have rz : rg (L - y + x) := rg_sm (by omega) (by omega)
  have rgg : rg g := rg_sm (by omega) (by omega)
  have rmo : rg mo := rg_sm (by omega) (by omega)
  have rfb : rg (ai fa t) := rg_sm (by omega) (by omega)
  unfold mX at hk
  subst ht
  subst hg
  subst hy
  rcases hnf with ⟨rfl, rfl⟩ | ⟨rfl, rfl⟩
  · rw [← cA_up rfl] at hk
    refine rc_go [156] 80 ?_
    refine And.intro i3 (And.intro ⟨rg_sm (by omega) (by omega), rg_sm (x := ai 238 (96 + q).toNat) (by omega) (by omega)⟩ (And.intro (fun h => absurd (show ai 238 (96 + q).toNat < p from h) (by omega)) (fun _ => ?_)))
    refine And.intro i2 (And.intro ⟨rg_sm (by omega) (by omega), rg_sm (x := p * 1) (by omega) (by omega)⟩ ?_)
    refine And.intro i2 (And.intro ⟨show rg 20 from ⟨by decide, by decide⟩, rz⟩ ?_)
    refine Exists.intro 244 (And.intro ⟨Nat.le_refl _, Nat.le_refl _⟩ (c_placeOf hw ?_))
    refine And.intro it (And.intro ⟨rfb, rgg⟩ (And.intro it ?_))
    refine And.intro ⟨rmo, rgg⟩ ?_
    exact hk
  · rw [← cA_up rfl] at hk
    refine rc_go [156] 80 ?_
    refine And.intro i3 (And.intro ⟨rg_sm (by omega) (by omega), rg_sm (x := ai 238 (96 + q).toNat) (by omega) (by omega)⟩ (And.intro (fun h => absurd (show ai 238 (96 + q).toNat < p from h) (by omega)) (fun _ => ?_)))
    refine And.intro i2 (And.intro ⟨rg_sm (by omega) (by omega), rg_sm (x := p * 1) (by omega) (by omega)⟩ ?_)
    refine And.intro i2 (And.intro ⟨show rg 20 from ⟨by decide, by decide⟩, rz⟩ ?_)
    refine Exists.intro 244 (And.intro ⟨Nat.le_refl _, Nat.le_refl _⟩ (c_placeOf hw ?_))
    refine And.intro it (And.intro ⟨rfb, rgg⟩ (And.intro it ?_))
    refine And.intro ⟨rmo, rgg⟩ ?_
    exact hk
theorem go_x (hq : 0 ≤ q ∧ q < 96) (hp : 0 ≤ p ∧ p ≤ 4) (hpw : ai 238 (96 + q).toNat < p) (hpb : 0 ≤ ai 238 (96 + q).toNat) {x10 x11 x13 x14 x15 : Option av}
    (hk : Rc 1 (Call 1 scL scX (d + 1)) (mt 51) P 244 scL scX 95 (LgO q U L v uW lW cm mo (o + 1) x10 x11 (some (.inl p)) x13 x14 x15) [] 244 fi (cF nr fa fr) (cA ai) al) :
    Rc 1 (Call 1 scL scX (d + 1)) (mt 51) P 244 scL scX 156 (LgO q U L v uW lW cm mo o x10 x11 (some (.inl p)) x13 x14 x15) [] 244 fi (cF nr fa fr) (cA ai) al := by
  have i3 : inb (96 + q) 192 := ⟨by omega, by show 96 + q < 192; omega⟩
  refine rc_go [95] 20 ?_
  refine And.intro i3 (And.intro ⟨rg_sm (by omega) (by omega), rg_sm (x := ai 238 (96 + q).toNat) (by omega) (by omega)⟩ (And.intro (fun _ => ?_) (fun h => absurd (show ai 238 (96 + q).toNat < p from hpw) h)))
  exact hk
theorem go_o (hq : 0 ≤ q ∧ q < 96) (hU : 0 ≤ U ∧ U ≤ 20) (hcm : 0 ≤ cm ∧ cm ≤ 2) (ho : 0 ≤ o ∧ o ≤ 3) (how : o ≤ ai 238 q.toNat) (hpb : ai 238 q.toNat ≤ 3) (hx : x = if U < o * 1 then U else o * 1) (hnu : nu = if 20 < U - x + cm then 20 else U - x + cm) {x10 x11 x12 x13 x14 x15 : Option av}
    (hk : Rc 1 (Call 1 scL scX (d + 1)) (mt 51) P 244 scL scX 156 (LgO q U L v uW lW cm mo o (some (.inl x)) (some (.inl nu)) (some (.inl (ai 237 (96 + q).toNat))) x13 x14 x15) [] 244 fi (cF nr fa fr) (cA ai) al) :
    Rc 1 (Call 1 scL scX (d + 1)) (mt 51) P 244 scL scX 95 (LgO q U L v uW lW cm mo o x10 x11 x12 x13 x14 x15) [] 244 fi (cF nr fa fr) (cA ai) al := by
  have i1 : inb q 192 := ⟨by omega, by show q < 192; omega⟩
  have i3 : inb (96 + q) 192 := ⟨by omega, by show 96 + q < 192; omega⟩
  have i2 : inb 0 2 := ⟨by decide, by decide⟩
  have xb : 0 ≤ x ∧ x ≤ 3 ∧ x ≤ U := by rw [hx]; split <;> omega
  have rn : rg (U - x + cm) := rg_sm (by omega) (by omega)
  subst hnu
  subst hx
  refine rc_go [156] 60 ?_
  refine And.intro i1 (And.intro ⟨rg_sm (by omega) (by omega), rg_sm (x := ai 238 q.toNat) (by omega) (by omega)⟩ (And.intro (fun h => absurd (show ai 238 q.toNat < o from h) (by omega)) (fun _ => ?_)))
  refine And.intro i2 (And.intro ⟨rg_sm (by omega) (by omega), rg_sm (x := o * 1) (by omega) (by omega)⟩ ?_)
  refine And.intro i2 (And.intro ⟨show rg 20 from ⟨by decide, by decide⟩, rn⟩ ?_)
  refine And.intro i3 ?_
  exact hk
theorem go_e (hq : 0 ≤ q ∧ q < 96) (ho : 0 ≤ o ∧ o ≤ 4) (how : ai 238 q.toNat < o) (hpb : 0 ≤ ai 238 q.toNat) {x10 x11 x12 x13 x14 x15 : Option av} (hP : P (.inl (some (.inl mo))) fi (cF nr fa fr) (cA ai) al) :
    Rc 1 (Call 1 scL scX (d + 1)) (mt 51) P 244 scL scX 95 (LgO q U L v uW lW cm mo o x10 x11 x12 x13 x14 x15) [] 244 fi (cF nr fa fr) (cA ai) al := by
  have i1 : inb q 192 := ⟨by omega, by show q < 192; omega⟩
  refine rc_go [] 20 ?_
  refine And.intro i1 (And.intro ⟨rg_sm (by omega) (by omega), rg_sm (x := ai 238 q.toNat) (by omega) (by omega)⟩ (And.intro (fun _ => ?_) (fun h => absurd (show ai 238 q.toNat < o from how) h)))
  exact And.intro rfl hP
set_option maxRecDepth 4096 in
set_option maxHeartbeats 1000000 in
theorem go_h (hnf : nfo nr fa) (hw : fi 233 13 = 21) (hmk : fi 233 10 = 40) (hq : 0 ≤ q ∧ q < 96) (hU : 0 ≤ U ∧ U ≤ 20) (hL : 0 ≤ L ∧ L ≤ 20) (hv : v = ai nr (U * 21 + L).toNat) (hvb : -1 ≤ v ∧ v ≤ 1000) (hn : v = -1 → P (.inl (some (.inl (-1)))) fi (cF nr fa fr) (cA ai) al)
    (hk : 0 ≤ v → Rc 1 (Call 1 scL scX (d + 1)) (mt 51) P 244 scL scX 95 (LgO q U L v (if U < 5 then 0 else fi 233 11) (if L < 5 then 0 else fi 233 12) (cmB q) (-1) (ai 237 q.toNat) none none none none none none) [] 244 fi (cF nr fa fr) (cA ai) al) :
    Call 1 scL scX (d + 2) 51 [.inr (.inl (some 233)), .inl q, .inl U, .inl L] 244 fi (cF nr fa fr) (cA ai) al 244 P := by
  have i1 : inb q 192 := ⟨by omega, by show q < 192; omega⟩
  have i2 : inb 0 2 := ⟨by decide, by decide⟩
  have i2b : inb 1 2 := ⟨by decide, by decide⟩
  have it : inb (U * 21 + L) 1681 := ⟨by omega, by show U * 21 + L < 1681; omega⟩
  have e40 : (if 0 < L - fi 233 10 then L - fi 233 10 else 0) = 0 := by rw [hmk, if_neg (by omega)]
  have r5 : rg 5 := ⟨by decide, by decide⟩
  have r0 : rg 0 := ⟨by decide, by decide⟩
  have tail : 0 ≤ v → ∀ uW, uW = (if U < 5 then 0 else fi 233 11) → ∀ x6 x7 x8 x9, Rc 1 (Call 1 scL scX (d + 1)) (mt 51) P 244 scL scX 54 [some (.inr (.inl (some 233))), some (.inl q), some (.inl U), some (.inl L), some (.inl v), some (.inl uW), x6, x7, x8, x9, none, none, none, none, none, none] [] 244 fi (cF nr fa fr) (cA ai) al := fun h0 uW hu x6 x7 x8 x9 => by
    subst hu
    have hk := hk h0
    refine rc_go [95] 40 ?_
    refine And.intro i2b (And.intro ⟨rg_sm (by omega) (by omega), r5⟩ (And.intro (fun h => ?_) (fun h => ?_)))
    · have h : L < 5 := h
      rw [if_pos h] at hk
      refine Exists.intro 244 (And.intro ⟨Nat.le_refl _, Nat.le_refl _⟩ (c_comesB hq.1 hq.2 ?_))
      refine And.intro i1 ?_
      exact hk
    · have h : ¬ L < 5 := h
      rw [if_neg h] at hk
      refine Exists.intro 244 (And.intro ⟨Nat.le_refl _, Nat.le_refl _⟩ (c_comesB hq.1 hq.2 ?_))
      refine And.intro i1 ?_
      exact hk
  have mid : 0 ≤ v → Rc 1 (Call 1 scL scX (d + 1)) (mt 51) P 244 scL scX 20 [some (.inr (.inl (some 233))), some (.inl q), some (.inl U), some (.inl L), some (.inl v), none, none, none, none, none, none, none, none, none, none, none] [] 244 fi (cF nr fa fr) (cA ai) al := fun h0 => by
    refine rc_go [54] 40 ?_
    refine And.intro ⟨r0, rg_sm (x := L - fi 233 10) (by omega) (by omega)⟩ (And.intro i2 ?_)
    refine And.intro ⟨rg_sm (x := U - (if 0 < L - fi 233 10 then L - fi 233 10 else 0)) (by rw [e40]; omega) (by rw [e40]; omega), r5⟩ (And.intro (fun h => ?_) (fun h => ?_))
    · have h : U - (if 0 < L - fi 233 10 then L - fi 233 10 else 0) < 5 := h
      rw [e40] at h
      exact tail h0 0 (by rw [if_pos (by omega)]) _ _ _ _
    · have h : ¬ U - (if 0 < L - fi 233 10 then L - fi 233 10 else 0) < 5 := h
      rw [e40] at h
      exact tail h0 (fi 233 11) (by rw [if_neg (by omega)]) _ _ _ _
  subst hv
  rcases hnf with ⟨rfl, rfl⟩ | ⟨rfl, rfl⟩
  · refine ⟨⟨Nat.le_refl _, rfl⟩, rc_go [20] 30 ?_⟩
    refine Exists.intro 244 (And.intro ⟨Nat.le_refl _, Nat.le_refl _⟩ (c_placeOf hw ?_))
    refine And.intro it (And.intro ⟨rg_sm (x := ai 234 (U * 21 + L).toNat) (by omega) (by omega), r0⟩ (And.intro (fun h => ?_) (fun h => ?_)))
    · exact mid h
    · have h : ¬ 0 ≤ ai 234 (U * 21 + L).toNat := h
      exact And.intro rfl (hn (by omega))
  · refine ⟨⟨Nat.le_refl _, rfl⟩, rc_go [20] 30 ?_⟩
    refine Exists.intro 244 (And.intro ⟨Nat.le_refl _, Nat.le_refl _⟩ (c_placeOf hw ?_))
    refine And.intro it (And.intro ⟨rg_sm (x := ai 235 (U * 21 + L).toNat) (by omega) (by omega), r0⟩ (And.intro (fun h => ?_) (fun h => ?_)))
    · exact mid h
    · have h : ¬ 0 ≤ ai 235 (U * 21 + L).toNat := h
      exact And.intro rfl (hn (by omega))
end GoOn
