/-! the class's weighPlace as a whole -/
def uWk (wU mk up lo : Int) : Int := if up - (if 0 < lo - mk then lo - mk else 0) < 5 then 0 else wU
def lWk (wL lo : Int) : Int := if lo < 5 then 0 else wL
section Cls4
variable {scL : Nat} {scX : Nat → Int} {d : Nat} {fi : tF} {fr : tR} {ai : tF} {al : tL} {P : ot} {nr fa : Nat}
variable {q up lo fA tA fB wB : Int}
def Lv (q up lo uW lW : Int) : List (Option av) := [some (.inr (.inl (some 233))), some (.inl q), some (.inl up), some (.inl lo), some (.inl uW), some (.inl lW), none, none, none, none, none, none, none, none, none, none, none, none, none, none, none, none]
set_option maxRecDepth 4096 in
set_option maxHeartbeats 4000000 in
theorem wp_mid {uW lW : Int} (hq : 0 ≤ q ∧ q < 96) (hnaA : ai 237 q.toNat = fA) (hnaB : ai 237 (96 + q).toNat = fB) (hwdB : ai 238 (96 + q).toNat = wB)
    (key : Rc 1 (Call 1 scL scX (d + 1)) (mt 46) P 244 scL scX 147 (Lw q up lo uW lW fB wB (cmB q) (-1) 0 (-1) (some (.inl fA)) none none none none none) [] 244 fi (cF nr fa fr) (cA ai) al) :
    Rc 1 (Call 1 scL scX (d + 1)) (mt 46) P 244 scL scX 57 (Lv q up lo uW lW) [] 244 fi (cF nr fa fr) (cA ai) al := by
  rw [← hnaA, ← hnaB, ← hwdB] at key
  refine rc_go [147] 60 ?_
  refine And.intro ⟨by decide, by decide⟩ (And.intro ⟨by decide, by decide⟩ (And.intro ⟨by decide, by decide⟩ (And.intro ⟨by decide, by decide⟩ ?_)))
  refine And.intro ⟨by omega, by show 96 + q < 192; omega⟩ (And.intro ⟨by omega, by show 96 + q < 192; omega⟩ ?_)
  refine Exists.intro 244 (And.intro ⟨Nat.le_refl _, Nat.le_refl _⟩ (c_comesB hq.1 hq.2 ?_))
  exact And.intro ⟨by omega, by show q < 192; omega⟩ key
set_option maxRecDepth 4096 in
theorem c_weighPlace (hq : 0 ≤ q ∧ q < 96) (hnf : (nr = 234 ∧ fa = 235) ∨ (nr = 235 ∧ fa = 234)) (hw : fi 233 13 = 21) (hmk : 0 ≤ fi 233 10 ∧ fi 233 10 ≤ 40) (hu : 0 ≤ up ∧ up ≤ 20) (hl : 0 ≤ lo ∧ lo ≤ 20) (hfA : 0 ≤ fA) (hfB : 0 ≤ fB) (hwB : wB ≤ 3) {nA nB : Nat} (hnA : fA + nA = tA + 1) (hnB : fB + nB = wB + 1) (htA : tA ≤ 3)
    (hnaA : ai 237 q.toNat = fA) (hwdA : ai 238 q.toNat = tA) (hnaB : ai 237 (96 + q).toNat = fB) (hwdB : ai 238 (96 + q).toNat = wB)
    (hG : ∀ x y, 0 ≤ x → x ≤ 3 → x ≤ up → 0 ≤ y → y ≤ lo → -1 ≤ gH (uWk (fi 233 11) (fi 233 10) up lo) (lWk (fi 233 12) lo) (cmB q) (ai fa) up lo x y ∧ gH (uWk (fi 233 11) (fi 233 10) up lo) (lWk (fi 233 12) lo) (cmB q) (ai fa) up lo x y ≤ 1000000)
    (hP : P (.inl none) fi (cF nr fa fr) (cA (up2 ai nr (up * 21 + lo).toNat (jA (gH (uWk (fi 233 11) (fi 233 10) up lo) (lWk (fi 233 12) lo) (cmB q) (ai fa) up lo) up lo fB nB nA fA (-1) (-1) 0).1)) (up2 al 236 (q * 106 + (up * 21 + lo).tdiv 16).toNat (pkB (al 236 (q * 106 + (up * 21 + lo).tdiv 16).toNat) (up * 21 + lo) (jA (gH (uWk (fi 233 11) (fi 233 10) up lo) (lWk (fi 233 12) lo) (cmB q) (ai fa) up lo) up lo fB nB nA fA (-1) (-1) 0).2))) :
    Call 1 scL scX (d + 2) 46 [.inr (.inl (some 233)), .inl q, .inl up, .inl lo] 244 fi (cF nr fa fr) (cA ai) al 244 P := by
  have hfa : fa = 234 ∨ fa = 235 := by omega
  have bcm : 0 ≤ cmB q ∧ cmB q ≤ 2 := by unfold cmB; split <;> omega
  have key : Rc 1 (Call 1 scL scX (d + 1)) (mt 46) P 244 scL scX 147 (Lw q up lo (uWk (fi 233 11) (fi 233 10) up lo) (lWk (fi 233 12) lo) fB wB (cmB q) (-1) 0 (-1) (some (.inl fA)) none none none none none) [] 244 fi (cF nr fa fr) (cA ai) al := by
    refine wp_out hq hfa hw hu hl bcm hfB hwB hnB htA hwdA hG nA fA (-1) (-1) 0 none none none none none hfA hnA ⟨by omega, by omega⟩ ⟨by omega, by omega⟩ (fun x15' x16' x17' x18' x19' x20' x21' => ?_)
    refine rc_go [] 40 ?_
    refine Exists.intro 244 (And.intro ⟨Nat.le_refl _, Nat.le_refl _⟩ (c_placeOf hw ?_))
    rcases hnf with ⟨rfl, rfl⟩ | ⟨rfl, rfl⟩
    · refine And.intro ⟨by omega, by show up * 21 + lo < 1681; omega⟩ ?_
      refine Exists.intro 244 (And.intro ⟨Nat.le_refl _, Nat.le_refl _⟩ (c_keepPick hq (by omega) (by omega) ?_))
      refine And.intro rfl ?_
      rw [← cA_up rfl] at hP
      exact hP
    · refine And.intro ⟨by omega, by show up * 21 + lo < 1681; omega⟩ ?_
      refine Exists.intro 244 (And.intro ⟨Nat.le_refl _, Nat.le_refl _⟩ (c_keepPick hq (by omega) (by omega) ?_))
      refine And.intro rfl ?_
      rw [← cA_up rfl] at hP
      exact hP
  clear hP hG
  have mid := wp_mid (d := d) (scL := scL) (scX := scX) (P := P) (al := al) hq hnaA hnaB hwdB key
  refine ⟨⟨Nat.le_refl _, rfl⟩, rc_go [57] 60 ?_⟩
  refine And.intro ⟨⟨by decide, by decide⟩, rg_sm (x := lo - fi 233 10) (by omega) (by omega)⟩ ?_
  refine And.intro ⟨by decide, by decide⟩ ?_
  have bk : 0 ≤ (if 0 < lo - fi 233 10 then lo - fi 233 10 else 0) ∧ (if 0 < lo - fi 233 10 then lo - fi 233 10 else 0) ≤ 20 := by split <;> omega
  refine And.intro ⟨rg_sm (x := up - (if 0 < lo - fi 233 10 then lo - fi 233 10 else 0)) (by omega) (by omega), rg_sm (x := 5) (by omega) (by omega)⟩ (And.intro (fun h5 => ?_) (fun h5 => ?_))
  · have e5 : uWk (fi 233 11) (fi 233 10) up lo = 0 := if_pos h5
    rw [e5] at mid
    refine And.intro ⟨by decide, by decide⟩ ?_
    refine And.intro ⟨rg_sm (by omega) (by omega), rg_sm (x := 5) (by omega) (by omega)⟩ (And.intro (fun h6 => ?_) (fun h6 => ?_))
    · rw [show lWk (fi 233 12) lo = 0 from if_pos h6] at mid
      exact mid
    · rw [show lWk (fi 233 12) lo = fi 233 12 from if_neg h6] at mid
      exact mid
  · have e5 : uWk (fi 233 11) (fi 233 10) up lo = fi 233 11 := if_neg h5
    rw [e5] at mid
    refine And.intro ⟨by decide, by decide⟩ ?_
    refine And.intro ⟨rg_sm (by omega) (by omega), rg_sm (x := 5) (by omega) (by omega)⟩ (And.intro (fun h6 => ?_) (fun h6 => ?_))
    · rw [show lWk (fi 233 12) lo = 0 from if_pos h6] at mid
      exact mid
    · rw [show lWk (fi 233 12) lo = fi 233 12 from if_neg h6] at mid
      exact mid
end Cls4
