/-! the class's mostWorth: the places of a quarter, and the change of rows -/
theorem cF_sw {nr fa : Nat} {fr : tR} : up2 (up2 (cF nr fa fr) 233 0 (some fa)) 233 1 (some nr) = cF fa nr fr := by
  funext i j
  rw [up2_if, up2_if]
  by_cases h1 : i = 233 ∧ j = 1
  · rw [if_pos h1, h1.1, h1.2]; rfl
  · rw [if_neg h1]
    by_cases h0 : i = 233 ∧ j = 0
    · rw [if_pos h0, h0.1, h0.2]; rfl
    · rw [if_neg h0]
      unfold cF
      by_cases hi : i = 233
      · subst hi
        have e0 : Nat.beq j 0 = false := by
          cases e : Nat.beq j 0
          · rfl
          · exact absurd ⟨rfl, Nat.eq_of_beq_eq_true e⟩ h0
        have e1 : Nat.beq j 1 = false := by
          cases e : Nat.beq j 1
          · rfl
          · exact absurd ⟨rfl, Nat.eq_of_beq_eq_true e⟩ h1
        rw [e0, e1]; rfl
      · have e : Nat.beq i 233 = false := by
          cases e : Nat.beq i 233
          · rfl
          · exact absurd (Nat.eq_of_beq_eq_true e) hi
        rw [e]; rfl
def La (q : Int) (x2 x3 : Option av) : List (Option av) := [some (.inr (.inl (some 233))), some (.inl q), x2, x3]
/-- rows behind one place -/
def onA (wU wL mk fB fA : Int) (nB nA : Nat) (nr fa : Nat) (q up lo : Int) (ai : tF) : tF := up2 ai nr (up * 21 + lo).toNat (jA (gH (uWk wU mk up lo) (lWk wL lo) (cmB q) (ai fa) up lo) up lo fB nB nA fA (-1) (-1) 0).1
def onL (wU wL mk fB fA : Int) (nB nA : Nat) (fa : Nat) (q up lo : Int) (ai : tF) (al : tL) : tL := up2 al 236 (q * 106 + (up * 21 + lo).tdiv 16).toNat (pkB (al 236 (q * 106 + (up * 21 + lo).tdiv 16).toNat) (up * 21 + lo) (jA (gH (uWk wU mk up lo) (lWk wL lo) (cmB q) (ai fa) up lo) up lo fB nB nA fA (-1) (-1) 0).2)
section Cls5
variable {scL : Nat} {scX : Nat → Int} {d : Nat} {fi : tF} {fr : tR} {P : ot} {nr fa : Nat}
variable {q fA tA fB wB uL uM lL lM : Int} {nA nB : Nat} {I : tF → tL → Int → Int → Prop}
theorem c_swap {ai : tF} {al : tL} (hP : P (.inl none) fi (cF fa nr fr) ai al) : Call 1 scL scX (d + 1) 42 [.inr (.inl (some 233))] 244 fi (cF nr fa fr) ai al 244 P := by
  refine ⟨⟨Nat.le_refl _, rfl⟩, rc_go [] 14 ?_⟩
  refine And.intro rfl ?_
  rw [← cF_sw] at hP
  exact hP
theorem mw_l (hq : 0 ≤ q ∧ q < 96) (hnf : (nr = 234 ∧ fa = 235) ∨ (nr = 235 ∧ fa = 234)) (hw : fi 233 13 = 21) (hmk : 0 ≤ fi 233 10 ∧ fi 233 10 ≤ 40) (hfA : 0 ≤ fA) (hfB : 0 ≤ fB) (hwB : wB ≤ 3) (hnA : fA + nA = tA + 1) (hnB : fB + nB = wB + 1) (htA : tA ≤ 3) (hlL : 0 ≤ lL) (hlM : lM ≤ 20)
    (hE : ∀ ai al u l, I ai al u l → ai 242 q.toNat = lM ∧ ai 237 q.toNat = fA ∧ ai 238 q.toNat = tA ∧ ai 237 (96 + q).toNat = fB ∧ ai 238 (96 + q).toNat = wB)
    {up : Int} (hu : 0 ≤ up ∧ up ≤ 20)
    (hG : ∀ ai al lo, lL ≤ lo → lo ≤ lM → I ai al up lo → ∀ x y, 0 ≤ x → x ≤ 3 → x ≤ up → 0 ≤ y → y ≤ lo → -1 ≤ gH (uWk (fi 233 11) (fi 233 10) up lo) (lWk (fi 233 12) lo) (cmB q) (ai fa) up lo x y ∧ gH (uWk (fi 233 11) (fi 233 10) up lo) (lWk (fi 233 12) lo) (cmB q) (ai fa) up lo x y ≤ 1000000)
    (hI : ∀ ai al lo, lL ≤ lo → lo ≤ lM → I ai al up lo → I (onA (fi 233 11) (fi 233 12) (fi 233 10) fB fA nB nA nr fa q up lo ai) (onL (fi 233 11) (fi 233 12) (fi 233 10) fB fA nB nA fa q up lo ai al) up (lo + 1)) :
    ∀ (n : Nat) (lo : Int) (ai : tF) (al : tL), lL ≤ lo → lo + n = lM + 1 → I ai al up lo →
    (∀ ai' al', I ai' al' up (lM + 1) → Rc 1 (Call 1 scL scX (d + 2)) (mt 41) P 244 scL scX 66 (La q (some (.inl up)) (some (.inl (lM + 1)))) [] 244 fi (cF nr fa fr) (cA ai') al') →
    Rc 1 (Call 1 scL scX (d + 2)) (mt 41) P 244 scL scX 43 (La q (some (.inl up)) (some (.inl lo))) [] 244 fi (cF nr fa fr) (cA ai) al := by
  intro n
  induction n with
  | zero =>
    intro lo ai al hlo hn hi hk
    have e : lo = lM + 1 := by omega
    subst e
    obtain ⟨e1, -, -, -, -⟩ := hE ai al _ _ hi
    refine rc_go [66] 12 ?_
    refine And.intro ⟨hq.1, by show q < 96; omega⟩ ?_
    exact And.intro ⟨rg_sm (by omega) (by omega), rg_sm (x := ai 242 q.toNat) (by omega) (by omega)⟩ (And.intro (fun _ => hk ai al hi) (fun h => absurd (show ai 242 q.toNat < lM + 1 by omega) h))
  | succ n ih =>
    intro lo ai al hlo hn hi hk
    obtain ⟨e1, e2, e3, e4, e5⟩ := hE ai al _ _ hi
    refine rc_go [43, 66] 30 ?_
    refine And.intro ⟨hq.1, by show q < 96; omega⟩ ?_
    refine And.intro ⟨rg_sm (by omega) (by omega), rg_sm (x := ai 242 q.toNat) (by omega) (by omega)⟩ (And.intro (fun h => absurd (show ai 242 q.toNat < lo from h) (by omega)) (fun _ => ?_))
    refine Exists.intro 244 (And.intro ⟨Nat.le_refl _, Nat.le_refl _⟩ (c_weighPlace (tA := tA) (wB := wB) (nA := nA) (nB := nB) hq hnf hw hmk hu ⟨by omega, by omega⟩ hfA hfB hwB hnA hnB htA e2 e3 e4 e5 (hG ai al lo hlo (by omega) hi) ?_))
    exact ih (lo + 1) _ _ (by omega) (by omega) (hI ai al lo hlo (by omega) hi) hk
theorem mw_u (hq : 0 ≤ q ∧ q < 96) (hnf : (nr = 234 ∧ fa = 235) ∨ (nr = 235 ∧ fa = 234)) (hw : fi 233 13 = 21) (hmk : 0 ≤ fi 233 10 ∧ fi 233 10 ≤ 40) (hfA : 0 ≤ fA) (hfB : 0 ≤ fB) (hwB : wB ≤ 3) (hnA : fA + nA = tA + 1) (hnB : fB + nB = wB + 1) (htA : tA ≤ 3) (hlL : 0 ≤ lL) (hlM : lM ≤ 20) (hll : lL ≤ lM + 1) (huL : 0 ≤ uL) (huM : uM ≤ 20)
    (hE : ∀ ai al u l, I ai al u l → ai 242 q.toNat = lM ∧ ai 237 q.toNat = fA ∧ ai 238 q.toNat = tA ∧ ai 237 (96 + q).toNat = fB ∧ ai 238 (96 + q).toNat = wB) (hE2 : ∀ ai al u l, I ai al u l → ai 240 q.toNat = uM ∧ ai 241 q.toNat = lL)
    (hG : ∀ ai al up lo, uL ≤ up → up ≤ uM → lL ≤ lo → lo ≤ lM → I ai al up lo → ∀ x y, 0 ≤ x → x ≤ 3 → x ≤ up → 0 ≤ y → y ≤ lo → -1 ≤ gH (uWk (fi 233 11) (fi 233 10) up lo) (lWk (fi 233 12) lo) (cmB q) (ai fa) up lo x y ∧ gH (uWk (fi 233 11) (fi 233 10) up lo) (lWk (fi 233 12) lo) (cmB q) (ai fa) up lo x y ≤ 1000000)
    (hI : ∀ ai al up lo, uL ≤ up → up ≤ uM → lL ≤ lo → lo ≤ lM → I ai al up lo → I (onA (fi 233 11) (fi 233 12) (fi 233 10) fB fA nB nA nr fa q up lo ai) (onL (fi 233 11) (fi 233 12) (fi 233 10) fB fA nB nA fa q up lo ai al) up (lo + 1))
    (hI2 : ∀ ai al up, uL ≤ up → up ≤ uM → I ai al up (lM + 1) → I ai al (up + 1) lL) :
    ∀ (n : Nat) (up : Int) (ai : tF) (al : tL) (x3 : Option av), uL ≤ up → up + n = uM + 1 → I ai al up lL →
    (∀ ai' al' x2' x3', I ai' al' (uM + 1) lL → Rc 1 (Call 1 scL scX (d + 2)) (mt 41) P 244 scL scX 72 (La q x2' x3') [] 244 fi (cF nr fa fr) (cA ai') al') →
    Rc 1 (Call 1 scL scX (d + 2)) (mt 41) P 244 scL scX 26 (La q (some (.inl up)) x3) [] 244 fi (cF nr fa fr) (cA ai) al := by
  intro n
  induction n with
  | zero =>
    intro up ai al x3 hup hn hi hk
    have e : up = uM + 1 := by omega
    subst e
    obtain ⟨e1, -⟩ := hE2 ai al _ _ hi
    refine rc_go [72] 12 ?_
    refine And.intro ⟨hq.1, by show q < 96; omega⟩ ?_
    exact And.intro ⟨rg_sm (by omega) (by omega), rg_sm (x := ai 240 q.toNat) (by omega) (by omega)⟩ (And.intro (fun _ => hk ai al _ _ hi) (fun h => absurd (show ai 240 q.toNat < uM + 1 by omega) h))
  | succ n ih =>
    intro up ai al x3 hup hn hi hk
    obtain ⟨e1, e2⟩ := hE2 ai al _ _ hi
    refine rc_go [43, 72] 30 ?_
    refine And.intro ⟨hq.1, by show q < 96; omega⟩ ?_
    refine And.intro ⟨rg_sm (by omega) (by omega), rg_sm (x := ai 240 q.toNat) (by omega) (by omega)⟩ (And.intro (fun h => absurd (show ai 240 q.toNat < up from h) (by omega)) (fun _ => ?_))
    refine And.intro ⟨hq.1, by show q < 96; omega⟩ ?_
    have := mw_l (d := d) (scL := scL) (scX := scX) (P := P) (fr := fr) (I := I) (lL := lL) hq hnf hw hmk hfA hfB hwB hnA hnB htA hlL hlM hE (up := up) ⟨by omega, by omega⟩ (fun ai al lo => hG ai al up lo hup (by omega)) (fun ai al lo => hI ai al up lo hup (by omega)) (lM + 1 - lL).toNat lL ai al (Int.le_refl _) (by omega) hi (fun ai' al' hi' => by
      refine rc_go [26] 10 ?_
      exact ih (up + 1) ai' al' _ (by omega) (by omega) (hI2 ai' al' up hup (by omega) hi') hk)
    rw [← e2] at this
    exact this
end Cls5
