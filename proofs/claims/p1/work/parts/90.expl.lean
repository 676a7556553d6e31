/-! explain: the reference, and the call -/
theorem op_0 : ∀ h : Nat, h < 6 → opO 0 (h : Int) = 0 := by decide +kernel
theorem cl_b : ∀ x : Nat, x < 64 → ∀ h : Nat, h < 6 → (b32 (fun p q => p &&& q) (x : Int) (b32 (fun p q => p ^^^ q) (b32 (fun p q => p <<< (q &&& 31)) 1 (h : Int)) (-1))) = ((x &&& (63 - 1 <<< h) : Nat) : Int) ∧ x &&& (63 - 1 <<< h) < 64 ∧ (x &&& (63 - 1 <<< h)).testBit h = false ∧ ∀ w : Nat, w < 6 → x.testBit w = false → (x &&& (63 - 1 <<< h)).testBit w = false := by decide +kernel
theorem all0 : ∀ x : Nat, x < 64 → (∀ w : Nat, w < 6 → x.testBit w = false) → x = 0 := by decide +kernel
/-- the hours alike so far -/
def alK (r h : Nat) (x : Int) : Prop := 0 ≤ x ∧ x ≤ 63 ∧ ∀ k : Nat, k < 6 → ∀ r0 : Nat, r0 < (if k < h then r + 1 else r) → opO (r0 : Int) (k : Int) ≠ 0 → x.toNat.testBit k = false
theorem alK_n {r h : Nat} {x : Int} (H : alK r h x) (e : opO (r : Int) (h : Int) = 0) : alK r (h + 1) x := by
  refine ⟨H.1, H.2.1, fun k hk r0 h0 hne => ?_⟩
  by_cases c : k < h
  · rw [if_pos (show k < h + 1 by omega)] at h0
    exact H.2.2 k hk r0 (by rw [if_pos c]; exact h0) hne
  · by_cases c2 : k = h
    · rw [if_pos (show k < h + 1 by omega)] at h0
      by_cases c3 : r0 = r
      · rw [c3, c2] at hne
        exact absurd e hne
      · exact H.2.2 k hk r0 (by rw [if_neg c]; omega) hne
    · rw [if_neg (show ¬ k < h + 1 by omega)] at h0
      exact H.2.2 k hk r0 (by rw [if_neg c]; exact h0) hne
theorem alK_y {r h : Nat} {x : Int} (hh : h < 6) (H : alK r h x) : alK r (h + 1) (b32 (fun p q => p &&& q) x (b32 (fun p q => p ^^^ q) (b32 (fun p q => p <<< (q &&& 31)) 1 (h : Int)) (-1))) := by
  obtain ⟨h0, h1, h2⟩ := H
  obtain ⟨n, rfl⟩ := Int.eq_ofNat_of_zero_le h0
  have k := cl_b n (by omega) h hh
  rw [k.1]
  refine ⟨by omega, by have := k.2.1; omega, fun w hw r0 hr hne => ?_⟩
  show (n &&& (63 - 1 <<< h)).testBit w = false
  by_cases c : w = h
  · rw [c]; exact k.2.2.1
  · refine k.2.2.2 w hw (h2 w hw r0 ?_ hne)
    by_cases c2 : w < h
    · rw [if_pos c2]
      rw [if_pos (show w < h + 1 by omega)] at hr
      exact hr
    · rw [if_neg c2]
      rw [if_neg (show ¬ w < h + 1 by omega)] at hr
      exact hr
theorem alK_s {r : Nat} {x : Int} (H : alK r 6 x) : alK (r + 1) 0 x := by
  refine ⟨H.1, H.2.1, fun k hk r0 h0 hne => H.2.2 k hk r0 ?_ hne⟩
  rw [if_pos hk]
  rw [if_neg (by omega)] at h0
  exact h0
theorem alK_e {x : Int} (H : alK 4096 0 x) : x = 0 := by
  obtain ⟨h0, h1, h2⟩ := H
  obtain ⟨n, rfl⟩ := Int.eq_ofNat_of_zero_le h0
  have k := all0 n (by omega) (fun w hw => by
    have a := op_hit w hw 1 (by decide)
    exact h2 w hw _ (by rw [if_neg (by omega)]; exact a.1) (by rw [a.2]; decide))
  rw [k]; rfl
section Expl3
variable {scL : Nat} {scX : Nat → Int} {d N : Nat} {fi : tF} {fr : tR} {ai : tF} {al : tL} {P : ot}
theorem c_hourOf {fr : tR} {r h : Int} (hP : P (.inl (some (.inl (opO r h)))) fi fr ai al) : Call 1 scL scX (d + 1) 194 [.inl r, .inl h] N fi fr ai al N P := by
  refine ⟨⟨Nat.le_refl _, rfl⟩, rc_go [] 20 ?_⟩
  exact And.intro rfl hP
theorem ex_l {f0 a0 : tF} {r : Int} (h36 : f0 54 36 = -1) (h20 : f0 54 20 = 0) (h81 : ∀ k, 0 ≤ a0 81 k ∧ a0 81 k ≤ 3) (hP : ∀ f a, dfr f0 a0 f a → P (.inl (some (.inl 1))) f (rF fr) (rA a) al) :
    ∀ (n q : Nat) (f a : tF), q + n = 24 → okW3 (a 112 0, a 112 1, f 54 30) → dfr f0 a0 f a → Rc 1 (Call 1 scL scX (d + 3)) (mt 195) P N scL scX 6 [some (.inr (.inl (some 54))), some (.inl r), some (.inl (q : Int))] [] N f (rF fr) (rA a) al := by
  intro n
  induction n with
  | zero =>
    intro q f a hn hs hf
    have e : q = 24 := by omega
    subst e
    have e20 : f 54 20 = 0 := (hf.2.2 20 (by decide) (by decide)).trans h20
    refine rc_go [] 40 ?_
    refine And.intro ⟨⟨by decide, by decide⟩, ⟨by decide, by decide⟩⟩ (And.intro (fun _ => ?_) (fun h => absurd (by decide : (24 : Int) ≤ 24) h))
    refine And.intro ⟨⟨by decide, by decide⟩, rg_sm (x := f 54 20) (by omega) (by omega)⟩ (And.intro (fun _ => ?_) (fun h => absurd (show f 54 20 ≤ 0 by omega) h))
    exact And.intro (Or.inr rfl) (And.intro rfl (hP f a hf))
  | succ n ih =>
    intro q f a hn hs hf
    unfold okW3 at hs
    have b81 := h81 q
    have e81 : a 81 = a0 81 := hf.1 81 (Or.inl (by decide))
    have b81 : 0 ≤ a 81 q ∧ a 81 q ≤ 3 := by rw [e81]; exact b81
    refine rc_go [6] 60 ?_
    refine And.intro ⟨rg_sm (by omega) (by omega), ⟨by decide, by decide⟩⟩ (And.intro (fun h' => absurd (show (24 : Int) ≤ (q : Int) from h') (by omega)) (fun _ => ?_))
    refine Exists.intro N (And.intro ⟨Nat.le_refl _, Nat.le_refl _⟩ (c_mayOpen (d := d + 1) (m := 0) (Or.inl rfl) (by omega) (by omega) ?_))
    refine And.intro (fun h => absurd h (by decide)) (fun _ => And.intro ⟨by decide, by decide⟩ (And.intro ⟨by decide, by decide⟩ ?_))
    refine And.intro ⟨rg_sm (by omega) (by omega), ⟨by decide, by decide⟩, by decide⟩ ?_
    refine Exists.intro N (And.intro ⟨Nat.le_refl _, Nat.le_refl _⟩ (c_hourOf ?_))
    refine Exists.intro N (And.intro ⟨Nat.le_refl _, Nat.le_refl _⟩ (c_openBy (m := 1) (Or.inr rfl) (by omega) (by omega) ?_))
    refine Exists.intro N (And.intro ⟨Nat.le_refl _, Nat.le_refl _⟩ (c_quarter (q := (q : Int)) ⟨by omega, by omega⟩ hs.1 hs.2.1 hs.2.2 opO_b b81 ((hf.2.2 36 (by decide) (by decide)).trans h36) (fun f' a' hq => ?_)))
    obtain ⟨p0, p1, p2, -, -, p5, p6, p7⟩ := hq
    refine ih (q + 1) f' a' (by omega) ?_ (dfr_tr hf ⟨p5, p6, p7⟩)
    have bX : 0 ≤ gX (a 112 0) ∧ gX (a 112 0) ≤ 20 := gX_b hs.1
    have bY : 0 ≤ gY (a 112 1) (f 54 30) ∧ gY (a 112 1) (f 54 30) ≤ 20 := gY_b hs.2.1 hs.2.2
    have m1 := gM_b (a := opO r ((q : Int).tdiv 4)) opO_b bX
    have m2 := gM_b (a := a 81 q) b81 bY
    have p0 : a' 112 0 = gX (a 112 0) - gM (opO r ((q : Int).tdiv 4)) (gX (a 112 0)) := p0
    have p1 : a' 112 1 = gY (a 112 1) (f 54 30) - gM (a 81 q) (gY (a 112 1) (f 54 30)) := p1
    have p2 : f' 54 30 = gM (opO r ((q : Int).tdiv 4)) (gX (a 112 0)) := p2
    unfold okW3
    dsimp only
    rw [p0, p1, p2]
    omega
theorem c_explains {r : Int} (h36 : fi 54 36 = -1) (h20 : fi 54 20 = 0) (h81 : ∀ k, 0 ≤ ai 81 k ∧ ai 81 k ≤ 3) (hP : ∀ f a, dfr fi ai f a → P (.inl (some (.inl 1))) f (rF fr) (rA a) al) : Call 1 scL scX (d + 4) 195 [.inr (.inl (some 54)), .inl r] N fi (rF fr) (rA ai) al N P := by
  refine ⟨⟨Nat.le_refl _, rfl⟩, rc_go [6] 10 ?_⟩
  refine Exists.intro N (And.intro ⟨Nat.le_refl _, Nat.le_refl _⟩ (c_begins (d := d + 2) (fun f1 a1 hD hf => ?_)))
  obtain ⟨e1, e2, e3, -, -⟩ := hD
  refine ex_l (f0 := fi) (a0 := ai) h36 h20 h81 hP 24 0 f1 a1 (by decide) ?_ hf
  rw [e1, e2, e3]
  exact s0_ok
/-- the reference's loop: its hours -/
theorem xh_l {w : Int} {r : Nat} (hr : r < 4096) (hk : ∀ x y6, alK r 6 x → Rc 1 (Call 1 scL scX (d + 4)) (mt 196) P N scL scX 119 [some (.inr (.inl (some 54))), some (.inl w), some (.inl ((r : Int) + 1)), some (.inl 0), some (.inl x), some (.inl (r : Int)), y6] [] N fi (rF fr) (rA ai) al) :
    ∀ (n h : Nat) (x : Int), h + n = 6 → alK r h x → Rc 1 (Call 1 scL scX (d + 4)) (mt 196) P N scL scX 79 [some (.inr (.inl (some 54))), some (.inl w), some (.inl ((r : Int) + 1)), some (.inl 0), some (.inl x), some (.inl (r : Int)), some (.inl (h : Int))] [] N fi (rF fr) (rA ai) al := by
  intro n
  induction n with
  | zero =>
    intro h x hn hx
    have e : h = 6 := by omega
    subst e
    refine rc_go [119] 10 ?_
    exact And.intro ⟨⟨by decide, by decide⟩, ⟨by decide, by decide⟩⟩ (And.intro (fun _ => hk x _ hx) (fun h => absurd (by decide : (6 : Int) ≤ 6) h))
  | succ n ih =>
    intro h x hn hx
    have o0 := op_0 h (by omega)
    have ob := opO_b (r := (r : Int)) (h := (h : Int))
    refine rc_go [79] 30 ?_
    refine And.intro ⟨rg_sm (by omega) (by omega), ⟨by decide, by decide⟩⟩ (And.intro (fun h' => absurd (show (6 : Int) ≤ (h : Int) from h') (by omega)) (fun _ => ?_))
    refine Exists.intro N (And.intro ⟨Nat.le_refl _, Nat.le_refl _⟩ (c_hourOf ?_))
    refine Exists.intro N (And.intro ⟨Nat.le_refl _, Nat.le_refl _⟩ (c_hourOf ?_))
    refine And.intro (fun he => ?_) (fun hne => And.intro (rg_sm (by omega) (by omega)) (And.intro (rg_sm (x := opO 0 (h : Int)) (by omega) (by omega)) ?_))
    · have he : opO (r : Int) (h : Int) = opO 0 (h : Int) := he
      exact ih (h + 1) x (by omega) (alK_n hx (he.trans o0))
    · exact ih (h + 1) _ (by omega) (alK_y (by omega) hx)
theorem xr_l {w : Int} (hk : ∀ f a x y6, dfr fi ai f a → alK 4096 0 x → Rc 1 (Call 1 scL scX (d + 4)) (mt 196) P N scL scX 125 [some (.inr (.inl (some 54))), some (.inl w), some (.inl 4096), some (.inl 0), some (.inl x), some (.inl 4096), y6] [] N f (rF fr) (rA a) al) (h36 : fi 54 36 = -1) (h20 : fi 54 20 = 0) (h81 : ∀ k, 0 ≤ ai 81 k ∧ ai 81 k ≤ 3) :
    ∀ (n r : Nat) (f a : tF) (x : Int) (y6 : Option av), r + n = 4096 → dfr fi ai f a → alK r 0 x → Rc 1 (Call 1 scL scX (d + 4)) (mt 196) P N scL scX 41 [some (.inr (.inl (some 54))), some (.inl w), some (.inl (r : Int)), some (.inl (if r = 0 then -1 else 0)), some (.inl x), some (.inl (r : Int)), y6] [] N f (rF fr) (rA a) al := by
  intro n
  induction n with
  | zero =>
    intro r f a x y6 hn hf hx
    have e : r = 4096 := by omega
    subst e
    refine rc_go [125] 10 ?_
    exact And.intro ⟨⟨by decide, by decide⟩, ⟨by decide, by decide⟩⟩ (And.intro (fun _ => hk f a x y6 hf hx) (fun h => absurd (by decide : (4096 : Int) ≤ 4096) h))
  | succ n ih =>
    intro r f a x y6 hn hf hx
    have next : ∀ f1 a1 x' y', dfr fi ai f1 a1 → alK r 6 x' → Rc 1 (Call 1 scL scX (d + 4)) (mt 196) P N scL scX 119 [some (.inr (.inl (some 54))), some (.inl w), some (.inl ((r : Int) + 1)), some (.inl 0), some (.inl x'), some (.inl (r : Int)), y'] [] N f1 (rF fr) (rA a1) al := fun f1 a1 x' y' h1 h2 => by
      have key := ih (r + 1) f1 a1 x' y' (by omega) h1 (alK_s h2)
      rw [if_neg (show ¬ r + 1 = 0 by omega)] at key
      refine rc_go [41] 10 ?_
      exact key
    refine rc_go [79] 40 ?_
    refine And.intro ⟨rg_sm (by omega) (by omega), ⟨by decide, by decide⟩⟩ (And.intro (fun h' => absurd (show (4096 : Int) ≤ (r : Int) from h') (by omega)) (fun _ => ?_))
    refine Exists.intro N (And.intro ⟨Nat.le_refl _, Nat.le_refl _⟩ (c_explains (r := (r : Int)) ((hf.2.2 36 (by decide) (by decide)).trans h36) ((hf.2.2 20 (by decide) (by decide)).trans h20) (fun k => by rw [hf.1 81 (Or.inl (by decide))]; exact h81 k) (fun f1 a1 hf1 => ?_)))
    have hf2 := dfr_tr hf hf1
    refine And.intro (fun _ => And.intro ⟨by decide, by decide⟩ (And.intro ⟨by decide, by decide⟩ ?_)) (fun h => absurd h (by decide))
    by_cases c : r = 0
    · rw [if_pos c]
      subst c
      refine And.intro (fun h => absurd rfl h) (fun _ => ?_)
      exact xh_l (r := 0) (by decide) (fun x' y' h' => next f1 a1 x' y' hf2 h') 6 0 x (by decide) hx
    · rw [if_neg c]
      refine And.intro (fun _ => And.intro ⟨by decide, by decide⟩ (And.intro ⟨by decide, by decide⟩ ?_)) (fun h => absurd h (by decide))
      exact xh_l (r := r) (by omega) (fun x' y' h' => next f1 a1 x' y' hf2 h') 6 0 x (by decide) hx
theorem c_mexplain {w : Int} (hw : w = 0 ∨ w = 1 ∨ w = 2) (h36 : fi 54 36 = -1) (h20 : fi 54 20 = 0) (h81 : ∀ k, 0 ≤ ai 81 k ∧ ai 81 k ≤ 3) (hP : ∀ fi' ai', fi' 54 0 = 0 → P (.inl (some (.inl (if w = 0 then 4096 else 0)))) fi' (rF fr) (rA ai') al) : Call 1 scL scX (d + 5) 196 [.inr (.inl (some 54)), .inl w] N fi (rF fr) (rA ai) al N P := by
  refine ⟨⟨Nat.le_refl _, rfl⟩, rc_go [41] 40 ?_⟩
  refine Exists.intro N (And.intro ⟨Nat.le_refl _, Nat.le_refl _⟩ (c_in1 (rg_sm (by omega) (by omega)) ⟨by decide, by decide⟩ ⟨by decide, by decide⟩ ⟨by omega, by omega⟩ ?_))
  refine And.intro (fun _ => And.intro ⟨by decide, by decide⟩ (And.intro ⟨by decide, by decide⟩ ?_)) (fun h => absurd h (by decide))
  refine Exists.intro N (And.intro ⟨Nat.le_refl _, Nat.le_refl _⟩ (c_bad0 rfl ?_))
  refine And.intro (fun _ => ?_) (fun h => absurd rfl h)
  refine xr_l (fi := up2 fi 54 0 0) (ai := ai) (w := w) (fun f a x y6 hf hx => ?_) h36 h20 h81 4096 0 (up2 fi 54 0 0) ai 63 none (by decide) (dfr_0 _ _) ⟨by decide, by decide, fun k hk r0 h0 => absurd h0 (by rw [if_neg (by omega)]; omega)⟩
  have ex := alK_e hx
  subst ex
  have k := hP f a (hf.2.2 0 (by decide) (by decide))
  rcases hw with rfl | rfl | rfl
  · refine rc_go [] 20 ?_
    refine And.intro (fun h => absurd rfl h) (fun _ => ?_)
    exact And.intro rfl k
  · refine rc_go [] 20 ?_
    refine And.intro (fun _ => And.intro ⟨by decide, by decide⟩ (And.intro ⟨by decide, by decide⟩ ?_)) (fun h => absurd h (by decide))
    refine And.intro (fun h => absurd rfl h) (fun _ => ?_)
    exact And.intro rfl k
  · refine rc_go [] 20 ?_
    refine And.intro (fun _ => And.intro ⟨by decide, by decide⟩ (And.intro ⟨by decide, by decide⟩ ?_)) (fun h => absurd h (by decide))
    refine And.intro (fun _ => And.intro ⟨by decide, by decide⟩ (And.intro ⟨by decide, by decide⟩ ?_)) (fun h => absurd h (by decide))
    refine And.intro (fun _ => And.intro ⟨by decide, by decide⟩ (And.intro ⟨by decide, by decide⟩ ?_)) (fun h => absurd h (by decide))
    exact And.intro rfl k
theorem c_explain {w : Int} (hb : bitOk) (hw : w = 0 ∨ w = 1 ∨ w = 2) (h31 : ∀ k, ai 31 k = -1) (h29 : ∀ k, ai 29 k = 0) (h33 : ∀ k, ai 33 k = 0) (h34 : ∀ k, ai 34 k = 0) (h35 : ∀ k, ai 35 k = 0) (h36 : ∀ k, ai 36 k = 0) (hmk : fi 3 6 = 40) (hP : ∀ f a, wS 4096 fi ai f a → P (.inl (some (.inl (if w = 0 then 4096 else 0)))) f eF (cA a) al) : Call 1 scL scX (d + 5) 93 [.inr (.inl (some 0)), .inl w] N fi frB (cA ai) al N P := by
  refine ⟨⟨Nat.le_refl _, rfl⟩, rc_go [22] 20 ?_⟩
  refine Exists.intro N (And.intro ⟨Nat.le_refl _, Nat.le_refl _⟩ (c_needR (d := d + 3) (rg_sm (by omega) (by omega)) ⟨by decide, by decide⟩ ⟨by decide, by decide⟩ (by omega) (by omega) ?_))
  refine Exists.intro N (And.intro ⟨Nat.le_refl _, Nat.le_refl _⟩ (c_findWays h31 h29 h33 h34 h35 h36 hmk (fun f a hw2 => ?_)))
  have k := hP f a hw2
  obtain ⟨w1, w2, -, -, w5, -⟩ := hw2
  rw [if_neg (by decide)] at w2
  have w1 : f 30 9 = 4096 := w1
  rcases hw with rfl | rfl | rfl
  · rw [if_pos rfl, ← w1] at k
    refine rc_go [] 20 ?_
    refine And.intro ⟨by decide, by decide⟩ (And.intro (fun _ => ?_) (fun h => absurd rfl h))
    exact And.intro rfl k
  · rw [if_neg (by decide), ← w2] at k
    refine rc_go [] 20 ?_
    refine And.intro ⟨by decide, by decide⟩ (And.intro (fun h => absurd h (by decide)) (fun _ => And.intro (fun _ => ?_) (fun h => absurd rfl h)))
    exact And.intro rfl k
  · rw [if_neg (by decide)] at k
    refine rc_go [] 20 ?_
    refine And.intro ⟨by decide, by decide⟩ (And.intro (fun h => absurd h (by decide)) (fun _ => And.intro (fun h => absurd h (by decide)) (fun _ => ?_)))
    refine Exists.intro N (And.intro ⟨Nat.le_refl _, Nat.le_refl _⟩ (c_sure (d := d + 2) hb (fun j hj => seen_e hj (w5 j hj)) ?_))
    exact And.intro rfl k
end Expl3
theorem rF_e : rF eF = eF := rF_id (fun _ => rfl)
theorem g_29b {scX : Nat → Int} (hb : bitOk) (hI : ∀ j, -2147483648 ≤ scX j ∧ scX j ≤ 2147483647) (hop : b32 (fun p q => p &&& q) (scX 0) 63 = 29) : Good scX := by
  by_cases c : 0 ≤ scX 1 ∧ scX 1 ≤ 2
  · have hw : scX 1 = 0 ∨ scX 1 = 1 ∨ scX 1 = 2 := by omega
    refine ga_29 hop ?_
    rw [← cA_h0]
    refine c_explain (d := 25) hb hw (fun _ => rfl) (fun _ => rfl) (fun _ => rfl) (fun _ => rfl) (fun _ => rfl) (fun _ => rfl) rfl (fun f a hw2 => ⟨_, rfl, ?_⟩)
    obtain ⟨-, -, w3, -, -, w6⟩ := hw2
    have e : ∀ o, 36 < o → a o = h0A o := fun o h => w6 o (Or.inr h)
    have e54 : f 54 = h0I 54 := w3 54 (by decide) (by decide)
    rw [← rF_e, ← rA_h0 (e 58 (by decide)) (e 60 (by decide))]
    exact c_mexplain (d := 26) hw (congrFun e54 36) (congrFun e54 20) (r81_b (e 81 (by decide))) (fun fi' ai' h0 => ⟨rfl, h0, rfl⟩)
  · exact g_29_no hI hop c
