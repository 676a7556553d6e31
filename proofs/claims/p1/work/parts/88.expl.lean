/-! explain, the class: nothing is told, so every row of openings fits (by gen88.py) -/
def eF : tR := up2 (up2 frB 30 2 (some 3)) 30 3 (some 29)
/-- an hour's opening by a row -/
def opO (r h : Int) : Int := b32 (fun p q => p &&& q) (b32 (fun p q => p >>> (q &&& 31)) r (2 * (5 - h))) 3
theorem and3_b (x : Int) : 0 ≤ b32 (fun p q => p &&& q) x 3 ∧ b32 (fun p q => p &&& q) x 3 ≤ 3 := by
  have e : ((Int32.ofInt x &&& Int32.ofInt 3).toBitVec).toNat ≤ 3 := by
    rw [Int32.toBitVec_and, BitVec.toNat_and]; exact Nat.and_le_right
  have k : 0 ≤ ((Int32.ofInt x &&& Int32.ofInt 3).toBitVec).toInt ∧ ((Int32.ofInt x &&& Int32.ofInt 3).toBitVec).toInt ≤ 3 := by
    rw [BitVec.toInt_eq_toNat_cond]
    split
    · omega
    · omega
  exact k
theorem opO_b {r h : Int} : 0 ≤ opO r h ∧ opO r h ≤ 3 := and3_b _
/-- sets of openings as four bits -/
theorem or_b : ∀ x : Nat, x < 16 → ∀ v : Nat, v < 4 → (b32 (fun p q => p ||| q) (x : Int) (b32 (fun p q => p <<< (q &&& 31)) 1 (v : Int))) = ((x ||| (1 <<< v) : Nat) : Int) ∧ x ||| (1 <<< v) < 16 ∧ (x ||| (1 <<< v)).testBit v = true ∧ ∀ w : Nat, w < 4 → x.testBit w = true → (x ||| (1 <<< v)).testBit w = true := by decide +kernel
theorem all15 : ∀ x : Nat, x < 16 → (∀ w : Nat, w < 4 → x.testBit w = true) → x = 15 := by decide +kernel
/-- the sets seen -/
def seen (r : Nat) (x : Int) (h : Int) : Prop := 0 ≤ x ∧ x ≤ 15 ∧ ∀ r0 : Nat, r0 < r → x.toNat.testBit (opO (r0 : Int) h).toNat = true
theorem seen_s {r : Nat} {x h : Int} (H : seen r x h) : seen (r + 1) (b32 (fun p q => p ||| q) x (b32 (fun p q => p <<< (q &&& 31)) 1 (opO (r : Int) h))) h := by
  obtain ⟨h0, h1, h2⟩ := H
  obtain ⟨n, rfl⟩ := Int.eq_ofNat_of_zero_le h0
  have ov := opO_b (r := (r : Int)) (h := h)
  obtain ⟨v, hv⟩ := Int.eq_ofNat_of_zero_le ov.1
  have k := or_b n (by omega) v (by omega)
  rw [hv]
  have e : b32 (fun p q => p ||| q) ((n : Nat) : Int) (b32 (fun p q => p <<< (q &&& 31)) 1 ((v : Nat) : Int)) = ((n ||| (1 <<< v) : Nat) : Int) := k.1
  rw [e]
  refine ⟨by omega, by have := k.2.1; omega, fun r0 hr => ?_⟩
  show (n ||| (1 <<< v)).testBit _ = true
  by_cases c : r0 = r
  · rw [c, hv]; exact k.2.2.1
  · have b0 := opO_b (r := (r0 : Int)) (h := h)
    exact k.2.2.2 _ (by omega) (h2 r0 (by omega))
theorem op_hit : ∀ h : Nat, h < 6 → ∀ v : Nat, v < 4 → v * 4 ^ (5 - h) < 4096 ∧ opO ((v * 4 ^ (5 - h) : Nat) : Int) (h : Int) = (v : Int) := by decide +kernel
theorem seen_e {x : Int} {h : Nat} (hh : h < 6) (H : seen 4096 x (h : Int)) : x = 15 := by
  obtain ⟨h0, h1, h2⟩ := H
  obtain ⟨n, rfl⟩ := Int.eq_ofNat_of_zero_le h0
  have k := all15 n (by omega) (fun w hw => by
    have a := op_hit h hh w hw
    have b := h2 _ a.1
    rw [a.2] at b
    exact b)
  rw [k]; rfl
section Expl
variable {scL : Nat} {scX : Nat → Int} {d N : Nat} {fi : tF} {ai : tF} {al : tL} {P : ot}
theorem c_asItMay2E {k : Int} (hk : 0 ≤ k ∧ k < 192) (hp : 0 ≤ ai 29 k.toNat ∧ ai 29 k.toNat ≤ 3) (hP : P (.inl (some (.inl (ai 29 k.toNat)))) fi eF (cA ai) al) : Call 1 scL scX (d + 1) 32 [.inr (.inl (some 3)), .inr (.inl (some 29)), .inl k] N fi eF (cA ai) al N P := by
  refine ⟨⟨Nat.le_refl _, rfl⟩, rc_go [] 14 ?_⟩
  refine And.intro ⟨hk.1, by show k < 192; omega⟩ (And.intro ⟨hk.1, by show k < 192; omega⟩ ?_)
  refine And.intro ⟨rg_sm (x := ai 29 k.toNat) (by omega) (by omega), show rg 3 from ⟨by decide, by decide⟩⟩ ?_
  have e : (if ai 29 k.toNat < 3 then ai 29 k.toNat else 3) = ai 29 k.toNat := by
    split
    · rfl
    · omega
  rw [← e] at hP
  exact And.intro rfl hP
theorem c_standAtE {F : Nat} {u l w : Int} (hF : F = 48 ∨ F = 32) (hP : P (.inl none) (up2 (up2 (up2 fi F 0 u) F 1 l) F 2 w) eF ai al) : Call 1 scL scX (d + 1) 12 [.inr (.inl (some F)), .inl u, .inl l, .inl w] N fi eF ai al N P := by
  rcases hF with rfl | rfl
  · refine ⟨⟨Nat.le_refl _, rfl⟩, rc_go [] 14 ?_⟩
    exact And.intro rfl hP
  · refine ⟨⟨Nat.le_refl _, rfl⟩, rc_go [] 14 ?_⟩
    exact And.intro rfl hP
set_option maxRecDepth 4096 in
theorem pq1_32E {q a b : Int} (hq : 0 ≤ q ∧ q < 96) (hu : 0 ≤ fi 32 0 ∧ fi 32 0 ≤ 20) (hl : 0 ≤ fi 32 1 ∧ fi 32 1 ≤ 20) (hw : 0 ≤ fi 32 2 ∧ fi 32 2 ≤ 3) {x5 x6 : Option av}
    (hk : ∀ s t, Rc 1 (Call 1 scL scX d) (mt 13) P N scL scX 76 (Lp32 q a b (some (.inl (gX (fi 32 0)))) (some (.inl (gY (fi 32 1) (fi 32 2))))) [] N (up2 (up2 fi 32 3 s) 32 4 t) eF (cA ai) al) :
    Rc 1 (Call 1 scL scX d) (mt 13) P N scL scX 0 (Lp32 q a b x5 x6) [] N fi eF (cA ai) al := by
  have hk := hk (if 0 < fi 32 0 + 2 - 20 then fi 32 0 + 2 - 20 else 0) (if 0 < fi 32 1 + fi 32 2 - 20 then fi 32 1 + fi 32 2 - 20 else 0)
  unfold gX gY at hk
  rw [← mx20, ← mx20] at hk
  have r0 : rg 0 := ⟨by decide, by decide⟩
  refine rc_go [76] 60 ?_
  refine And.intro ⟨hq.1, by show q < 96; omega⟩ ?_
  refine And.intro ⟨by decide, by decide⟩ (And.intro ⟨r0, rg_sm (x := fi 32 0 + 2 - 20) (by omega) (by omega)⟩ ?_)
  refine And.intro ⟨by decide, by decide⟩ (And.intro ⟨r0, rg_sm (x := fi 32 1 + fi 32 2 - 20) (by omega) (by omega)⟩ ?_)
  exact hk
set_option maxRecDepth 8192 in
set_option maxHeartbeats 2000000 in
theorem pq2_32E {f : tF} {q a b X Y : Int} (hX : 0 ≤ X ∧ X ≤ 20) (hY : 0 ≤ Y ∧ Y ≤ 20) (ha : 0 ≤ a ∧ a ≤ 3) (hb : 0 ≤ b ∧ b ≤ 3) (hmk : f 3 6 = 40)
    (hP : ∀ f', f' 32 0 = X - gM a X → f' 32 1 = Y - gM b Y → f' 32 2 = gM a X → f' 32 8 = (if X < 5 then 0 else gM a X) → f' 32 9 = (if Y < 5 then 0 else gM b Y) → (∀ o, o ≠ 32 → f' o = f o) → P (.inl none) f' eF (cA ai) al) :
    Rc 1 (Call 1 scL scX d) (mt 13) P N scL scX 76 (Lp32 q a b (some (.inl X)) (some (.inl Y))) [] N f eF (cA ai) al := by
  have r0 : rg 0 := ⟨by decide, by decide⟩
  have r5 : rg 5 := ⟨by decide, by decide⟩
  have e40 : (if 0 < Y - f 3 6 then Y - f 3 6 else 0) = 0 := by rw [hmk, if_neg (by omega)]
  have ea := gM_min (o := a) (up := X)
  have eb := gM_min (o := b) (up := Y)
  have fin : ∀ g h, (if X < 5 then 0 else gM a X) = g → (if Y < 5 then 0 else gM b Y) = h → P (.inl none) (up2 (up2 (up2 (up2 (up2 (up2 (up2 (up2 f 32 5 (if 0 < Y - f 3 6 then Y - f 3 6 else 0)) 32 6 (if X < a * 1 then X else a * 1)) 32 7 (if Y < b * 1 then Y else b * 1)) 32 8 g) 32 9 h) 32 0 (X - (if X < a * 1 then X else a * 1))) 32 1 (Y - (if Y < b * 1 then Y else b * 1))) 32 2 (if X < a * 1 then X else a * 1)) eF (cA ai) al := by
    intro g h eg eh
    rw [ea, eb]
    exact hP _ rfl rfl rfl eg.symm eh.symm (fun o ho => by rw [up2_row ho, up2_row ho, up2_row ho, up2_row ho, up2_row ho, up2_row ho, up2_row ho, up2_row ho])
  refine rc_go [] 140 ?_
  refine And.intro ⟨r0, rg_sm (x := Y - f 3 6) (by omega) (by omega)⟩ ?_
  refine And.intro ⟨by decide, by decide⟩ (And.intro ⟨rg_sm (by omega) (by omega), rg_sm (x := a * 1) (by omega) (by omega)⟩ ?_)
  refine And.intro ⟨by decide, by decide⟩ (And.intro ⟨rg_sm (by omega) (by omega), rg_sm (x := b * 1) (by omega) (by omega)⟩ ?_)
  refine And.intro ⟨by decide, by decide⟩ ?_
  refine And.intro ⟨rg_sm (x := X - (if 0 < Y - f 3 6 then Y - f 3 6 else 0)) (by rw [e40]; omega) (by rw [e40]; omega), r5⟩ (And.intro (fun h => ?_) (fun h => ?_))
  · have h : X - (if 0 < Y - f 3 6 then Y - f 3 6 else 0) < 5 := h
    rw [e40] at h
    refine And.intro ⟨by decide, by decide⟩ ?_
    refine And.intro ⟨rg_sm (by omega) (by omega), r5⟩ (And.intro (fun h2 => ?_) (fun h2 => ?_))
    · have h2 : Y < 5 := h2
      exact And.intro rfl (fin 0 0 (by rw [if_pos (by omega)]) (by rw [if_pos h2]))
    · have h2 : ¬ Y < 5 := h2
      exact And.intro rfl (fin 0 (if Y < b * 1 then Y else b * 1) (by rw [if_pos (by omega)]) (by rw [if_neg h2, eb]))
  · have h : ¬ X - (if 0 < Y - f 3 6 then Y - f 3 6 else 0) < 5 := h
    rw [e40] at h
    refine And.intro ⟨by decide, by decide⟩ ?_
    refine And.intro ⟨rg_sm (by omega) (by omega), r5⟩ (And.intro (fun h2 => ?_) (fun h2 => ?_))
    · have h2 : Y < 5 := h2
      exact And.intro rfl (fin (if X < a * 1 then X else a * 1) 0 (by rw [if_neg (by omega), ea]) (by rw [if_pos h2]))
    · have h2 : ¬ Y < 5 := h2
      exact And.intro rfl (fin (if X < a * 1 then X else a * 1) (if Y < b * 1 then Y else b * 1) (by rw [if_neg (by omega), ea]) (by rw [if_neg h2, eb]))
theorem c_passQ32E {q a b : Int} (hq : 0 ≤ q ∧ q < 96) (hu : 0 ≤ fi 32 0 ∧ fi 32 0 ≤ 20) (hl : 0 ≤ fi 32 1 ∧ fi 32 1 ≤ 20) (hw : 0 ≤ fi 32 2 ∧ fi 32 2 ≤ 3) (ha : 0 ≤ a ∧ a ≤ 3) (hb : 0 ≤ b ∧ b ≤ 3) (hmk : fi 3 6 = 40) (hP : ∀ fi', pqO32 a b fi fi' → P (.inl none) fi' eF (cA ai) al) :
    Call 1 scL scX (d + 1) 13 [.inr (.inl (some 32)), .inr (.inl (some 3)), .inl q, .inl a, .inl b] N fi eF (cA ai) al N P := by
  refine ⟨⟨Nat.le_refl _, rfl⟩, pq1_32E hq hu hl hw (fun s t => pq2_32E (gX_b hu) (gY_b hl hw) ha hb hmk (fun f' e0 e1 e2 e8 e9 eo => hP f' ⟨e0, e1, e2, e8, e9, fun o ho => by rw [eo o ho, up2_row ho, up2_row ho]⟩))⟩
theorem c_openingOf {fr : tR} {r h : Int} (hP : P (.inl (some (.inl (opO r h)))) fi fr ai al) : Call 1 scL scX (d + 1) 58 [.inl r, .inl h] N fi fr ai al N P := by
  refine ⟨⟨Nat.le_refl _, rfl⟩, rc_go [] 20 ?_⟩
  exact And.intro rfl hP
theorem fc_l {fr : tR} {r : Int} (hP : ∀ h : Int, 0 ≤ h ∧ h ≤ 5 → P (.inl (some (.inl h))) fi fr ai al) : ∀ h : Nat, h ≤ 5 → Rc 1 (Call 1 scL scX (d + 1)) (mt 57) P N scL scX 2 [some (.inl r), some (.inl (h : Int))] [] N fi fr ai al := by
  intro h
  induction h with
  | zero =>
    intro _
    refine rc_go [] 10 ?_
    exact And.intro ⟨⟨by decide, by decide⟩, ⟨by decide, by decide⟩⟩ (And.intro (fun _ => And.intro rfl (hP 0 (by decide))) (fun h => absurd (by decide : (0 : Int) ≤ 0) h))
  | succ n ih =>
    intro hn
    have ih := ih (by omega)
    have o := opO_b (r := r) (h := ((n + 1 : Nat) : Int))
    refine rc_go [2] 20 ?_
    refine And.intro ⟨rg_sm (by omega) (by omega), ⟨by decide, by decide⟩⟩ (And.intro (fun h => absurd (show ((n + 1 : Nat) : Int) ≤ 0 from h) (by omega)) (fun _ => ?_))
    refine Exists.intro N (And.intro ⟨Nat.le_refl _, Nat.le_refl _⟩ (c_openingOf ?_))
    refine And.intro (fun _ => And.intro (rg_sm (by omega) (by omega)) (And.intro ⟨by decide, by decide⟩ ?_)) (fun _ => ?_)
    · exact And.intro rfl (hP _ (by omega))
    · have e : ((n + 1 : Nat) : Int) + (-1) = (n : Int) := by omega
      rw [← e] at ih
      exact ih
theorem c_firstChanged {fr : tR} {r : Int} (hP : ∀ h : Int, 0 ≤ h ∧ h ≤ 5 → P (.inl (some (.inl h))) fi fr ai al) : Call 1 scL scX (d + 2) 57 [.inl r] N fi fr ai al N P :=
  ⟨⟨Nat.le_refl _, rfl⟩, rc_go [2] 10 (fc_l hP 5 (by decide))⟩
/-- the flow stands somewhere -/
def fS (f0 f : tF) : Prop := okW3 (f 32 0, f 32 1, f 32 2) ∧ ∀ o, o ≠ 32 → f o = f0 o
theorem fi_l {f0 : tF} {h o : Int} (hh : 0 ≤ h ∧ h ≤ 5) (ho : 0 ≤ o ∧ o ≤ 3) (h31 : ∀ k, ai 31 k = -1) (h29 : ∀ k, ai 29 k = 0) (hmk : f0 3 6 = 40) (hP : ∀ f, fS f0 f → P (.inl (some (.inl 1))) f eF (cA ai) al) :
    ∀ (n : Nat) (q : Int) (f : tF) (x : Option av), q + n = h * 4 + 4 → h * 4 ≤ q → fS f0 f → Rc 1 (Call 1 scL scX (d + 1)) (mt 60) P N scL scX 4 [some (.inr (.inl (some 30))), some (.inl h), some (.inl o), some (.inl q), x] [] N f eF (cA ai) al := by
  intro n
  induction n with
  | zero =>
    intro q f x hn hq hf
    refine rc_go [] 20 ?_
    refine And.intro ⟨rg_sm (by omega) (by omega), rg_sm (x := h * 4 + 4) (by omega) (by omega)⟩ (And.intro (fun _ => ?_) (fun h' => absurd (show h * 4 + 4 ≤ q by omega) h'))
    exact And.intro (Or.inr rfl) (And.intro rfl (hP f hf))
  | succ n ih =>
    intro q f x hn hq hf
    obtain ⟨hs, hfo⟩ := hf
    unfold okW3 at hs
    have em : 0 ≤ (if o < 3 then o else 3) ∧ (if o < 3 then o else 3) ≤ 3 := by split <;> omega
    refine rc_go [4] 60 ?_
    refine And.intro ⟨rg_sm (by omega) (by omega), rg_sm (x := h * 4 + 4) (by omega) (by omega)⟩ (And.intro (fun h' => absurd (show h * 4 + 4 ≤ q from h') (by omega)) (fun _ => ?_))
    refine And.intro ⟨by omega, by show q < 192; omega⟩ ?_
    refine And.intro ⟨rg_sm (by omega) (by omega), show rg 3 from ⟨by decide, by decide⟩⟩ ?_
    refine Exists.intro N (And.intro ⟨Nat.le_refl _, Nat.le_refl _⟩ (c_asItMay2E (k := 96 + q) ⟨by omega, by omega⟩ (by rw [h29]; decide) ?_))
    refine Exists.intro N (And.intro ⟨Nat.le_refl _, Nat.le_refl _⟩ (c_passQ32E (q := q) ⟨by omega, by omega⟩ hs.1 hs.2.1 hs.2.2 em (by rw [h29]; decide) (by rw [hfo 3 (by decide)]; exact hmk) (fun f' hf' => ?_)))
    obtain ⟨p0, p1, p2, -, -, po⟩ := hf'
    have p0 : f' 32 0 = gX (f 32 0) - gM (if o < 3 then o else 3) (gX (f 32 0)) := p0
    have p2 : f' 32 2 = gM (if o < 3 then o else 3) (gX (f 32 0)) := p2
    have key := fun y => ih (q + 1) f' y (by omega) (by omega) ⟨by
      have bX : 0 ≤ gX (f 32 0) ∧ gX (f 32 0) ≤ 20 := gX_b hs.1
      have bY : 0 ≤ gY (f 32 1) (f 32 2) ∧ gY (f 32 1) (f 32 2) ≤ 20 := gY_b hs.2.1 hs.2.2
      have m1 := gM_b em bX
      have m2 := gM_b (a := ai 29 (96 + q).toNat) (by rw [h29]; decide) bY
      unfold okW3
      dsimp only
      rw [p0, p1, p2]
      omega, fun o' ho' => by rw [po o' ho', hfo o' ho']⟩
    refine And.intro ⟨by omega, by show q < 24; omega⟩ ?_
    refine And.intro (fun _ => ?_) (fun hne => absurd (h31 q.toNat) hne)
    exact key _
theorem c_fits {h o : Int} (hh : 0 ≤ h ∧ h ≤ 5) (ho : 0 ≤ o ∧ o ≤ 3) (h31 : ∀ k, ai 31 k = -1) (h29 : ∀ k, ai 29 k = 0) (hmk : fi 3 6 = 40) (hs : okW3 (fi 32 0, fi 32 1, fi 32 2)) (hP : ∀ f, fS fi f → P (.inl (some (.inl 1))) f eF (cA ai) al) : Call 1 scL scX (d + 2) 60 [.inr (.inl (some 30)), .inl h, .inl o] N fi eF (cA ai) al N P :=
  ⟨⟨Nat.le_refl _, rfl⟩, rc_go [4] 10 (fi_l hh ho h31 h29 hmk hP 4 (h * 4) fi none (by omega) (by omega) ⟨hs, fun _ _ => rfl⟩)⟩
/-- the rows ahead -/
def aS (a0 a : tF) : Prop := (∀ h : Nat, h ≤ 6 → okW3 (a 33 h, a 34 h, a 35 h)) ∧ ∀ o, o ≠ 33 → o ≠ 34 → o ≠ 35 → a o = a0 o
theorem aS_up {a0 a : tF} {h : Nat} {u l w : Int} (H : aS a0 a) (hs : okW3 (u, l, w)) : aS a0 (up2 (up2 (up2 a 33 h u) 34 h l) 35 h w) := by
  refine ⟨fun k hk => ?_, fun o h1 h2 h3 => by rw [up2_row h3, up2_row h2, up2_row h1]; exact H.2 o h1 h2 h3⟩
  by_cases c : k = h
  · subst c
    have e1 : up2 (up2 (up2 a 33 k u) 34 k l) 35 k w 33 k = u := by rw [up2_row (by decide), up2_row (by decide), up2_if, if_pos ⟨rfl, rfl⟩]
    have e2 : up2 (up2 (up2 a 33 k u) 34 k l) 35 k w 34 k = l := by rw [up2_row (by decide), up2_if, if_pos ⟨rfl, rfl⟩]
    have e3 : up2 (up2 (up2 a 33 k u) 34 k l) 35 k w 35 k = w := by rw [up2_if, if_pos ⟨rfl, rfl⟩]
    rw [e1, e2, e3]
    exact hs
  · have e1 : up2 (up2 (up2 a 33 h u) 34 h l) 35 h w 33 k = a 33 k := by rw [up2_row (by decide), up2_row (by decide), up2_if, if_neg (fun z => c z.2)]
    have e2 : up2 (up2 (up2 a 33 h u) 34 h l) 35 h w 34 k = a 34 k := by rw [up2_row (by decide), up2_if, if_neg (fun z => c z.2), up2_row (by decide)]
    have e3 : up2 (up2 (up2 a 33 h u) 34 h l) 35 h w 35 k = a 35 k := by rw [up2_if, if_neg (fun z => c z.2), up2_row (by decide), up2_row (by decide)]
    rw [e1, e2, e3]
    exact H.1 k hk
theorem ft_l {f0 a0 : tF} {r fm : Int} (h31 : ∀ k, a0 31 k = -1) (h29 : ∀ k, a0 29 k = 0) (hmk : f0 3 6 = 40) (hP : ∀ f a, (∀ o, o ≠ 32 → f o = f0 o) → aS a0 a → P (.inl (some (.inl 6))) f eF (cA a) al) :
    ∀ (n h : Nat) (f a : tF), h + n = 6 → (∀ o, o ≠ 32 → f o = f0 o) → aS a0 a → Rc 1 (Call 1 scL scX (d + 2)) (mt 59) P N scL scX 2 [some (.inr (.inl (some 30))), some (.inl r), some (.inl fm), some (.inl (h : Int))] [] N f eF (cA a) al := by
  intro n
  induction n with
  | zero =>
    intro h f a hn hf ha
    have e : h = 6 := by omega
    subst e
    refine rc_go [] 20 ?_
    exact And.intro ⟨⟨by decide, by decide⟩, ⟨by decide, by decide⟩⟩ (And.intro (fun _ => And.intro rfl (hP f a hf ha)) (fun h => absurd (by decide : (6 : Int) ≤ 6) h))
  | succ n ih =>
    intro h f a hn hf ha
    have hs := ha.1 h (by omega)
    refine rc_go [2] 80 ?_
    refine And.intro ⟨rg_sm (by omega) (by omega), ⟨by decide, by decide⟩⟩ (And.intro (fun h' => absurd (show (6 : Int) ≤ (h : Int) from h') (by omega)) (fun _ => ?_))
    refine And.intro ⟨by omega, by show (h : Int) < 7; omega⟩ (And.intro ⟨by omega, by show (h : Int) < 7; omega⟩ (And.intro ⟨by omega, by show (h : Int) < 7; omega⟩ ?_))
    refine Exists.intro N (And.intro ⟨Nat.le_refl _, Nat.le_refl _⟩ (c_standAtE (F := 32) (Or.inr rfl) ?_))
    refine Exists.intro N (And.intro ⟨Nat.le_refl _, Nat.le_refl _⟩ (c_openingOf ?_))
    refine Exists.intro N (And.intro ⟨Nat.le_refl _, Nat.le_refl _⟩ (c_fits (h := (h : Int)) ⟨by omega, by omega⟩ opO_b (fun k => by rw [ha.2 31 (by decide) (by decide) (by decide)]; exact h31 k) (fun k => by rw [ha.2 29 (by decide) (by decide) (by decide)]; exact h29 k) (by rw [up2_row (by decide), up2_row (by decide), up2_row (by decide), hf 3 (by decide)]; exact hmk) hs (fun f2 hf2 => ?_)))
    obtain ⟨s2, o2⟩ := hf2
    have key := ih (h + 1) f2 (up2 (up2 (up2 a 33 (h + 1) (f2 32 0)) 34 (h + 1) (f2 32 1)) 35 (h + 1) (f2 32 2)) (by omega) (fun o ho => by rw [o2 o ho, up2_row ho, up2_row ho, up2_row ho]; exact hf o ho) (aS_up ha s2)
    rw [← cA_up rfl, ← cA_up rfl, ← cA_up rfl] at key
    have i7 : inb ((h : Int) + 1) 7 := ⟨by omega, by show (h : Int) + 1 < 7; omega⟩
    refine And.intro (fun _ => And.intro ⟨by decide, by decide⟩ (And.intro ⟨by decide, by decide⟩ ?_)) (fun h => absurd h (by decide))
    refine And.intro i7 (And.intro i7 (And.intro i7 ?_))
    exact key
theorem c_fitting {r fm : Int} (hfm : 0 ≤ fm ∧ fm ≤ 5) (h31 : ∀ k, ai 31 k = -1) (h29 : ∀ k, ai 29 k = 0) (hmk : fi 3 6 = 40) (ha : ∀ h : Nat, h ≤ 6 → okW3 (ai 33 h, ai 34 h, ai 35 h)) (hP : ∀ f a, (∀ o, o ≠ 32 → f o = fi o) → aS ai a → P (.inl (some (.inl 6))) f eF (cA a) al) : Call 1 scL scX (d + 3) 59 [.inr (.inl (some 30)), .inl r, .inl fm] N fi eF (cA ai) al N P := by
  obtain ⟨n, rfl⟩ := Int.eq_ofNat_of_zero_le hfm.1
  exact ⟨⟨Nat.le_refl _, rfl⟩, rc_go [2] 10 (ft_l h31 h29 hmk hP (6 - n) n fi ai (by omega) (fun _ _ => rfl) ⟨ha, fun _ _ _ _ => rfl⟩)⟩
end Expl
