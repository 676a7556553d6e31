/-! the reference's lays: all quarters, from the last to the first -/
def zN (ai : tF) (n : Nat) : tF := fun i j => if i = 127 ∧ j < n then 0 else ai i j
def cpN (ai : tF) (n : Nat) : tF := fun i j => if i = 127 ∧ j < n then ai 126 j else ai i j
theorem zN_up (ai : tF) (k : Nat) : up2 (rA (zN ai k)) 127 k 0 = rA (zN ai (k + 1)) := by
  rw [rA_up (by decide) (by decide)]
  congr 1
  funext i j
  rw [up2_if]
  unfold zN
  by_cases h : i = 127 ∧ j = k
  · rw [if_pos h, if_pos ⟨h.1, by omega⟩]
  · rw [if_neg h]
    by_cases h2 : i = 127 ∧ j < k
    · rw [if_pos h2, if_pos ⟨h2.1, by omega⟩]
    · rw [if_neg h2, if_neg (by omega)]
theorem cpN_up (ai : tF) (k : Nat) : up2 (rA (cpN ai k)) 127 k (rA (cpN ai k) 126 k) = rA (cpN ai (k + 1)) := by
  rw [rA_up (by decide) (by decide)]
  congr 1
  funext i j
  rw [up2_if]
  have e : rA (cpN ai k) 126 k = ai 126 k := by
    show cpN ai k 126 k = _
    unfold cpN
    rw [if_neg (by omega)]
  rw [e]
  unfold cpN
  by_cases h : i = 127 ∧ j = k
  · rw [if_pos h, if_pos ⟨h.1, by omega⟩, h.2]
  · rw [if_neg h]
    by_cases h2 : i = 127 ∧ j < k
    · rw [if_pos h2, if_pos ⟨h2.1, by omega⟩]
    · rw [if_neg h2, if_neg (by omega)]
def Lz (who : Int) (x2 x3 x4 x5 x6 x7 x8 x9 : Option av) : List (Option av) := [some (.inr (.inl (some 54))), some (.inl who), x2, x3, x4, x5, x6, x7, x8, x9]
theorem wa_31 : b32 (fun p q => p &&& q) 3 1 = 1 := by decide +kernel
theorem wa_32 : b32 (fun p q => p &&& q) 3 2 = 2 := by decide +kernel
theorem wa_35 : b32 (fun p q => p &&& q) 3 5 = 1 := by decide +kernel
theorem wa_36 : b32 (fun p q => p &&& q) 3 6 = 2 := by decide +kernel
theorem wa_11 : b32 (fun p q => p &&& q) 1 1 = 1 := by decide +kernel
theorem wa_12 : b32 (fun p q => p &&& q) 1 2 = 0 := by decide +kernel
theorem wa_15 : b32 (fun p q => p &&& q) 1 5 = 1 := by decide +kernel
theorem wa_16 : b32 (fun p q => p &&& q) 1 6 = 0 := by decide +kernel
theorem wa_51 : b32 (fun p q => p &&& q) 5 1 = 1 := by decide +kernel
theorem wa_52 : b32 (fun p q => p &&& q) 5 2 = 0 := by decide +kernel
theorem wa_55 : b32 (fun p q => p &&& q) 5 5 = 5 := by decide +kernel
theorem wa_56 : b32 (fun p q => p &&& q) 5 6 = 4 := by decide +kernel
section Lays2
variable {scL : Nat} {scX : Nat → Int} {d N : Nat} {fi : tF} {fr : tR} {al : tL} {P : ot} {who q p fb fB tB : Int} {nB : Nat} {I : tF → Int → Int → Int → Prop}
theorem sw_l (h0 : 0 ≤ q) (h1 : q < 96) (hmk : 0 ≤ fi 54 39 ∧ fi 54 39 ≤ 40) (hb : (fb = 1 ∧ fB = 0 ∧ tB = 3) ∨ (fb = 0 ∧ fB = p ∧ tB = p)) (htB : tB ≤ 3) (hfB : 0 ≤ fB) (hnB : fB + nB = tB + 1) {u : Int} (hu : 0 ≤ u ∧ u ≤ 20)
    (hF : ∀ ai l w, 0 ≤ l → l ≤ 20 → I ai u l w → ∀ a j, 0 ≤ a → a ≤ 3 → 0 ≤ j → j ≤ 3 → -1 ≤ gF (fi 54 37) (fi 54 38) (fi 54 39) (ai 127) u l w a j ∧ gF (fi 54 37) (fi 54 38) (fi 54 39) (ai 127) u l w a j ≤ 1000000)
    (hI : ∀ ai l w, 0 ≤ l → l ≤ 20 → 0 ≤ w → w ≤ 3 → I ai u l w → I (onS (fi 54 37) (fi 54 38) (fi 54 39) fB nB q u l w ai) u l (w + 1)) (hI4 : ∀ ai l, 0 ≤ l → l ≤ 20 → I ai u l 4 → I ai u (l + 1) 0) :
    ∀ (n : Nat) (l sb : Int) (ai : tF) (x9 : Option av), 0 ≤ l → l + n = 21 → I ai u l 0 →
    (∀ ai' sb' x8' x9', I ai' u 21 0 → Rc 1 (Call 1 scL scX (d + 4)) (mt 164) P N scL scX 220 (Ly who q 1 fb 0 p (some (.inl u)) x8' x9') [] N (up2 fi 54 40 sb') (rF fr) (rA ai') al) →
    Rc 1 (Call 1 scL scX (d + 4)) (mt 164) P N scL scX 128 (Ly who q 1 fb 0 p (some (.inl u)) (some (.inl l)) x9) [] N (up2 fi 54 40 sb) (rF fr) (rA ai) al := by
  intro n
  induction n with
  | zero =>
    intro l sb ai x9 hl hn hi hk
    have e : l = 21 := by omega
    subst e
    refine rc_go [220] 12 ?_
    refine And.intro ⟨by decide, by decide⟩ ?_
    exact And.intro ⟨rg_sm (by omega) (by omega), rg_sm (x := 20) (by omega) (by omega)⟩ (And.intro (fun _ => hk ai sb _ _ hi) (fun h => absurd (by decide : (20 : Int) < 21) h))
  | succ n ih =>
    intro l sb ai x9 hl hn hi hk
    have hl3 : l ≤ 20 := by omega
    refine rc_go [142, 220] 60 ?_
    refine And.intro ⟨by decide, by decide⟩ ?_
    refine And.intro ⟨rg_sm (by omega) (by omega), rg_sm (x := 20) (by omega) (by omega)⟩ (And.intro (fun h => absurd (show (20 : Int) < l from h) (by omega)) (fun _ => ?_))
    refine sw_w (who := who) h0 h1 hmk hb htB hfB hnB hu ⟨hl, hl3⟩ (fun ai w => hF ai l w hl hl3) (fun ai w => hI ai l w hl hl3) 4 0 sb ai (by decide) (by decide) hi (fun ai' sb' x9' hi' => ?_)
    refine rc_go [128] 10 ?_
    exact ih (l + 1) sb' ai' x9' (by omega) (by omega) (hI4 ai' l hl hl3 hi') hk
theorem sw_u (h0 : 0 ≤ q) (h1 : q < 96) (hmk : 0 ≤ fi 54 39 ∧ fi 54 39 ≤ 40) (hb : (fb = 1 ∧ fB = 0 ∧ tB = 3) ∨ (fb = 0 ∧ fB = p ∧ tB = p)) (htB : tB ≤ 3) (hfB : 0 ≤ fB) (hnB : fB + nB = tB + 1)
    (hF : ∀ ai u l w, 0 ≤ u → u ≤ 20 → 0 ≤ l → l ≤ 20 → I ai u l w → ∀ a j, 0 ≤ a → a ≤ 3 → 0 ≤ j → j ≤ 3 → -1 ≤ gF (fi 54 37) (fi 54 38) (fi 54 39) (ai 127) u l w a j ∧ gF (fi 54 37) (fi 54 38) (fi 54 39) (ai 127) u l w a j ≤ 1000000)
    (hI : ∀ ai u l w, 0 ≤ u → u ≤ 20 → 0 ≤ l → l ≤ 20 → 0 ≤ w → w ≤ 3 → I ai u l w → I (onS (fi 54 37) (fi 54 38) (fi 54 39) fB nB q u l w ai) u l (w + 1)) (hI4 : ∀ ai u l, 0 ≤ u → u ≤ 20 → 0 ≤ l → l ≤ 20 → I ai u l 4 → I ai u (l + 1) 0) (hI21 : ∀ ai u, 0 ≤ u → u ≤ 20 → I ai u 21 0 → I ai (u + 1) 0 0) :
    ∀ (n : Nat) (u sb : Int) (ai : tF) (x8 x9 : Option av), 0 ≤ u → u + n = 21 → I ai u 0 0 →
    (∀ ai' sb' x7' x8' x9', I ai' 21 0 0 → Rc 1 (Call 1 scL scX (d + 4)) (mt 164) P N scL scX 226 (Ly who q 1 fb 0 p x7' x8' x9') [] N (up2 fi 54 40 sb') (rF fr) (rA ai') al) →
    Rc 1 (Call 1 scL scX (d + 4)) (mt 164) P N scL scX 114 (Ly who q 1 fb 0 p (some (.inl u)) x8 x9) [] N (up2 fi 54 40 sb) (rF fr) (rA ai) al := by
  intro n
  induction n with
  | zero =>
    intro u sb ai x8 x9 hu hn hi hk
    have e : u = 21 := by omega
    subst e
    refine rc_go [226] 12 ?_
    refine And.intro ⟨by decide, by decide⟩ ?_
    exact And.intro ⟨rg_sm (by omega) (by omega), rg_sm (x := 20) (by omega) (by omega)⟩ (And.intro (fun _ => hk ai sb _ _ _ hi) (fun h => absurd (by decide : (20 : Int) < 21) h))
  | succ n ih =>
    intro u sb ai x8 x9 hu hn hi hk
    have hu3 : u ≤ 20 := by omega
    refine rc_go [128, 226] 60 ?_
    refine And.intro ⟨by decide, by decide⟩ ?_
    refine And.intro ⟨rg_sm (by omega) (by omega), rg_sm (x := 20) (by omega) (by omega)⟩ (And.intro (fun h => absurd (show (20 : Int) < u from h) (by omega)) (fun _ => ?_))
    refine sw_l (who := who) h0 h1 hmk hb htB hfB hnB ⟨hu, hu3⟩ (fun ai l w => hF ai u l w hu hu3) (fun ai l w => hI ai u l w hu hu3) (fun ai l => hI4 ai u l hu hu3) 21 0 sb ai x9 (by decide) (by decide) hi (fun ai' sb' x8' x9' hi' => ?_)
    refine rc_go [114] 10 ?_
    exact ih (u + 1) sb' ai' x8' x9' (by omega) (by omega) (hI21 ai' u hu hu3 hi') hk
theorem ly_cp {x3 x4 x5 x6 : Int} {x8 x9 : Option av} {ai : tF} {fi : tF} : ∀ (n k : Nat), k + n = 21853 →
    (∀ x7', Rc 1 (Call 1 scL scX (d + 4)) (mt 164) P N scL scX 257 (Ly who q x3 x4 x5 x6 x7' x8 x9) [] N fi (rF fr) (rA (cpN ai 21853)) al) →
    Rc 1 (Call 1 scL scX (d + 4)) (mt 164) P N scL scX 229 (Ly who q x3 x4 x5 x6 (some (.inl (k : Int))) x8 x9) [] N fi (rF fr) (rA (cpN ai k)) al := by
  intro n
  induction n with
  | zero =>
    intro k hk hx
    have e : k = 21853 := by omega
    subst e
    refine rc_go [257] 12 ?_
    exact And.intro ⟨rg_sm (by omega) (by omega), rg_sm (x := 21853) (by omega) (by omega)⟩ (And.intro (fun _ => hx _) (fun h => absurd (by decide : (21853 : Int) ≤ 21853) h))
  | succ n ih =>
    intro k hk hx
    refine rc_go [229, 257] 20 ?_
    refine And.intro ⟨rg_sm (by omega) (by omega), rg_sm (x := 21853) (by omega) (by omega)⟩ (And.intro (fun h => absurd (show (21853 : Int) ≤ (k : Int) from h) (by omega)) (fun _ => ?_))
    refine And.intro ⟨by omega, by show (k : Int) < 21853; omega⟩ ?_
    refine And.intro ⟨by omega, by show (k : Int) < 21853; omega⟩ ?_
    have := ih (k + 1) (by omega) hx
    rw [← cpN_up] at this
    exact this
theorem ly_z {x3 x4 x5 x6 x7 x8 x9 : Option av} {ai : tF} {fi : tF} : ∀ (n k : Nat), k + n = 21853 →
    (∀ x2', Rc 1 (Call 1 scL scX (d + 4)) (mt 164) P N scL scX 22 (Lz who x2' x3 x4 x5 x6 x7 x8 x9) [] N fi (rF fr) (rA (zN ai 21853)) al) →
    Rc 1 (Call 1 scL scX (d + 4)) (mt 164) P N scL scX 2 (Lz who (some (.inl (k : Int))) x3 x4 x5 x6 x7 x8 x9) [] N fi (rF fr) (rA (zN ai k)) al := by
  intro n
  induction n with
  | zero =>
    intro k hk hx
    have e : k = 21853 := by omega
    subst e
    refine rc_go [22] 12 ?_
    exact And.intro ⟨rg_sm (by omega) (by omega), rg_sm (x := 21853) (by omega) (by omega)⟩ (And.intro (fun _ => hx _) (fun h => absurd (by decide : (21853 : Int) ≤ 21853) h))
  | succ n ih =>
    intro k hk hx
    refine rc_go [2, 22] 20 ?_
    refine And.intro ⟨rg_sm (by omega) (by omega), rg_sm (x := 21853) (by omega) (by omega)⟩ (And.intro (fun h => absurd (show (21853 : Int) ≤ (k : Int) from h) (by omega)) (fun _ => ?_))
    refine And.intro ⟨by omega, by show (k : Int) < 21853; omega⟩ ?_
    have := ih (k + 1) (by omega) hx
    rw [← zN_up] at this
    exact this
end Lays2
