/-! the class's day (by gen78.py): with or without a Solver beside it -/
def dF (fr : tR) : tR := fun o k => bif Nat.beq o 0 then (bif Nat.beq k 10 then fr 0 10 else frB 0 k) else bif Nat.ble o 53 then frB o k else fr o k
theorem dF_frB : dF frB = frB := by
  funext o k
  unfold dF
  cases e : Nat.beq o 0
  · cases e2 : Nat.ble o 53
    · rfl
    · rfl
  · cases e2 : Nat.beq k 10
    · rw [Nat.eq_of_beq_eq_true e]; rfl
    · rw [Nat.eq_of_beq_eq_true e, Nat.eq_of_beq_eq_true e2]; rfl
theorem dF_cF {nr fa : Nat} : dF (cF nr fa frB) = cF nr fa frB := by
  funext o k
  unfold dF
  cases e : Nat.beq o 0
  · cases e2 : Nat.ble o 53
    · rfl
    · unfold cF
      have e3 : Nat.beq o 233 = false := by
        cases e3 : Nat.beq o 233
        · rfl
        · have h1 := Nat.eq_of_beq_eq_true e3
          have h2 := Nat.le_of_ble_eq_true e2
          omega
      rw [e3, e, e2]; rfl
  · rw [Nat.eq_of_beq_eq_true e]
    cases e2 : Nat.beq k 10
    · unfold cF
      rw [e2]; rfl
    · rw [Nat.eq_of_beq_eq_true e2]; rfl
theorem cpQ_cA {A : tF} {k : Nat} : up2 (cA (cpQ A 42 29 k)) 42 k (cpQ A 42 29 k 29 k) = cA (cpQ A 42 29 (k + 1)) := by
  rw [cA_up rfl, cpQ_row (by decide)]
  congr 1
  funext i j
  rw [up2_if]
  unfold cpQ
  by_cases h : i = 42 ∧ j = k
  · rw [if_pos h, if_pos ⟨h.1, by omega⟩, h.2]
  · rw [if_neg h]
    by_cases h2 : i = 42 ∧ j < k
    · rw [if_pos h2, if_pos ⟨h2.1, by omega⟩]
    · rw [if_neg h2, if_neg (by omega)]
section CDay
variable {scL : Nat} {scX : Nat → Int} {d N : Nat} {fi : tF} {fr : tR} {ai : tF} {al : tL} {P : ot}
theorem c_asItMay2 {k : Int} (hk : 0 ≤ k ∧ k < 192) (hp : 0 ≤ ai 29 k.toNat ∧ ai 29 k.toNat ≤ 3) (hP : P (.inl (some (.inl (ai 29 k.toNat)))) fi (dF fr) (cA ai) al) : Call 1 scL scX (d + 1) 32 [.inr (.inl (some 3)), .inr (.inl (some 29)), .inl k] N fi (dF fr) (cA ai) al N P := by
  refine ⟨⟨Nat.le_refl _, rfl⟩, rc_go [] 14 ?_⟩
  refine And.intro ⟨hk.1, by show k < 192; omega⟩ (And.intro ⟨hk.1, by show k < 192; omega⟩ ?_)
  refine And.intro ⟨rg_sm (x := ai 29 k.toNat) (by omega) (by omega), show rg 3 from ⟨by decide, by decide⟩⟩ ?_
  have e : (if ai 29 k.toNat < 3 then ai 29 k.toNat else 3) = ai 29 k.toNat := by
    split
    · rfl
    · omega
  rw [← e] at hP
  exact And.intro rfl hP
theorem oa_l {A : tF} (hp : ∀ k, k < 192 → 0 ≤ A 29 k ∧ A 29 k ≤ 3) (hP : P (.inl none) fi (dF fr) (cA (cpQ A 42 29 192)) al) : ∀ (n k : Nat), k + n = 192 → Rc 1 (Call 1 scL scX (d + 1)) (mt 1) P N scL scX 2 [some (.inr (.inl (some 41))), some (.inr (.inl (some 3))), some (.inr (.inl (some 29))), some (.inl (k : Int))] [] N fi (dF fr) (cA (cpQ A 42 29 k)) al := by
  intro n
  induction n with
  | zero =>
    intro k hn
    have e : k = 192 := by omega
    subst e
    refine rc_go [] 10 ?_
    exact And.intro ⟨⟨by decide, by decide⟩, ⟨by decide, by decide⟩⟩ (And.intro (fun _ => And.intro rfl hP) (fun h => absurd (by decide : (192 : Int) ≤ 192) h))
  | succ n ih =>
    intro k hn
    have key := ih (k + 1) (by omega)
    rw [← cpQ_cA] at key
    have b := hp k (by omega)
    rw [← cpQ_row (A := A) (dst := 42) (src := 29) (n := k) (o := 29) (by decide)] at b
    refine rc_go [2] 30 ?_
    refine And.intro ⟨rg_sm (by omega) (by omega), ⟨by decide, by decide⟩⟩ (And.intro (fun h => absurd (show (192 : Int) ≤ (k : Int) from h) (by omega)) (fun _ => ?_))
    refine Exists.intro N (And.intro ⟨Nat.le_refl _, Nat.le_refl _⟩ (c_asItMay2 (k := (k : Int)) ⟨by omega, by omega⟩ b ?_))
    refine And.intro ⟨by omega, by show (k : Int) < 192; omega⟩ ?_
    exact key
theorem c_openAs (hp : ∀ k, k < 192 → 0 ≤ ai 29 k ∧ ai 29 k ≤ 3) (hP : P (.inl none) fi (dF fr) (cA (cpQ ai 42 29 192)) al) : Call 1 scL scX (d + 2) 1 [.inr (.inl (some 41)), .inr (.inl (some 3)), .inr (.inl (some 29))] N fi (dF fr) (cA ai) al N P := by
  refine ⟨⟨Nat.le_refl _, rfl⟩, rc_go [2] 10 ?_⟩
  have key := oa_l (scL := scL) (scX := scX) (d := d) (N := N) (A := ai) hp hP 192 0 (by decide)
  rw [cpQ_0] at key
  exact key
theorem c_standAt {F : Nat} {u l w : Int} (hF : F = 48 ∨ F = 32) (hP : P (.inl none) (up2 (up2 (up2 fi F 0 u) F 1 l) F 2 w) (dF fr) ai al) : Call 1 scL scX (d + 1) 12 [.inr (.inl (some F)), .inl u, .inl l, .inl w] N fi (dF fr) ai al N P := by
  rcases hF with rfl | rfl
  · refine ⟨⟨Nat.le_refl _, rfl⟩, rc_go [] 14 ?_⟩
    exact And.intro rfl hP
  · refine ⟨⟨Nat.le_refl _, rfl⟩, rc_go [] 14 ?_⟩
    exact And.intro rfl hP
theorem c_start (hP : P (.inl none) (up2 (up2 (up2 fi 48 0 10) 48 1 10) 48 2 0) (dF fr) (cA ai) al) : Call 1 scL scX (d + 2) 4 [.inr (.inl (some 41)), .inr (.inl (some 3))] N fi (dF fr) (cA ai) al N P := by
  refine ⟨⟨Nat.le_refl _, rfl⟩, rc_go [] 20 ?_⟩
  refine And.intro ⟨by decide, by decide⟩ (And.intro ⟨by decide, by decide⟩ ?_)
  refine Exists.intro N (And.intro ⟨Nat.le_refl _, Nat.le_refl _⟩ (c_standAt (Or.inl rfl) ?_))
  exact And.intro rfl hP
theorem mx20 {z : Int} : z - (if 0 < z - 20 then z - 20 else 0) = if z < 20 then z else 20 := by
  by_cases h : 0 < z - 20
  · rw [if_pos h, if_neg (by omega)]; omega
  · rw [if_neg h]
    by_cases h2 : z < 20
    · rw [if_pos h2]; omega
    · rw [if_neg h2]; omega
def Lp48 (q a b : Int) (x5 x6 : Option av) : List (Option av) := [some (.inr (.inl (some 48))), some (.inr (.inl (some 3))), some (.inl q), some (.inl a), some (.inl b), x5, x6]
set_option maxRecDepth 4096 in
theorem pq1_48 {q a b : Int} (hq : 0 ≤ q ∧ q < 96) (hu : 0 ≤ fi 48 0 ∧ fi 48 0 ≤ 20) (hl : 0 ≤ fi 48 1 ∧ fi 48 1 ≤ 20) (hw : 0 ≤ fi 48 2 ∧ fi 48 2 ≤ 3) {x5 x6 : Option av}
    (hk : ∀ s t, Rc 1 (Call 1 scL scX d) (mt 13) P N scL scX 76 (Lp48 q a b (some (.inl (gX (fi 48 0)))) (some (.inl (gY (fi 48 1) (fi 48 2))))) [] N (up2 (up2 fi 48 3 s) 48 4 t) (dF fr) (cA ai) al) :
    Rc 1 (Call 1 scL scX d) (mt 13) P N scL scX 0 (Lp48 q a b x5 x6) [] N fi (dF fr) (cA ai) al := by
  have hk := hk (if 0 < fi 48 0 + 2 - 20 then fi 48 0 + 2 - 20 else 0) (if 0 < fi 48 1 + fi 48 2 - 20 then fi 48 1 + fi 48 2 - 20 else 0)
  unfold gX gY at hk
  rw [← mx20, ← mx20] at hk
  have r0 : rg 0 := ⟨by decide, by decide⟩
  refine rc_go [76] 60 ?_
  refine And.intro ⟨hq.1, by show q < 96; omega⟩ ?_
  refine And.intro ⟨by decide, by decide⟩ (And.intro ⟨r0, rg_sm (x := fi 48 0 + 2 - 20) (by omega) (by omega)⟩ ?_)
  refine And.intro ⟨by decide, by decide⟩ (And.intro ⟨r0, rg_sm (x := fi 48 1 + fi 48 2 - 20) (by omega) (by omega)⟩ ?_)
  exact hk
/-- what passQuarter does to its flow -/
def pqO48 (a b : Int) (fi fi' : tF) : Prop := fi' 48 0 = gX (fi 48 0) - gM a (gX (fi 48 0)) ∧ fi' 48 1 = gY (fi 48 1) (fi 48 2) - gM b (gY (fi 48 1) (fi 48 2)) ∧ fi' 48 2 = gM a (gX (fi 48 0)) ∧ fi' 48 8 = (if gX (fi 48 0) < 5 then 0 else gM a (gX (fi 48 0))) ∧ fi' 48 9 = (if gY (fi 48 1) (fi 48 2) < 5 then 0 else gM b (gY (fi 48 1) (fi 48 2))) ∧ (∀ o, o ≠ 48 → fi' o = fi o)
set_option maxRecDepth 8192 in
set_option maxHeartbeats 2000000 in
theorem pq2_48 {f : tF} {q a b X Y : Int} (hX : 0 ≤ X ∧ X ≤ 20) (hY : 0 ≤ Y ∧ Y ≤ 20) (ha : 0 ≤ a ∧ a ≤ 3) (hb : 0 ≤ b ∧ b ≤ 3) (hmk : f 3 6 = 40)
    (hP : ∀ f', f' 48 0 = X - gM a X → f' 48 1 = Y - gM b Y → f' 48 2 = gM a X → f' 48 8 = (if X < 5 then 0 else gM a X) → f' 48 9 = (if Y < 5 then 0 else gM b Y) → (∀ o, o ≠ 48 → f' o = f o) → P (.inl none) f' (dF fr) (cA ai) al) :
    Rc 1 (Call 1 scL scX d) (mt 13) P N scL scX 76 (Lp48 q a b (some (.inl X)) (some (.inl Y))) [] N f (dF fr) (cA ai) al := by
  have r0 : rg 0 := ⟨by decide, by decide⟩
  have r5 : rg 5 := ⟨by decide, by decide⟩
  have e40 : (if 0 < Y - f 3 6 then Y - f 3 6 else 0) = 0 := by rw [hmk, if_neg (by omega)]
  have ea := gM_min (o := a) (up := X)
  have eb := gM_min (o := b) (up := Y)
  have fin : ∀ g h, (if X < 5 then 0 else gM a X) = g → (if Y < 5 then 0 else gM b Y) = h → P (.inl none) (up2 (up2 (up2 (up2 (up2 (up2 (up2 (up2 f 48 5 (if 0 < Y - f 3 6 then Y - f 3 6 else 0)) 48 6 (if X < a * 1 then X else a * 1)) 48 7 (if Y < b * 1 then Y else b * 1)) 48 8 g) 48 9 h) 48 0 (X - (if X < a * 1 then X else a * 1))) 48 1 (Y - (if Y < b * 1 then Y else b * 1))) 48 2 (if X < a * 1 then X else a * 1)) (dF fr) (cA ai) al := by
    intro g h eg eh
    rw [ea, eb]
    exact hP _ rfl rfl rfl eg.symm eh.symm (fun o ho => by rw [up2_row ho, up2_row ho, up2_row ho, up2_row ho, up2_row ho, up2_row ho, up2_row ho, up2_row ho])
  refine rc_go [] 140 ?_
  refine And.intro ⟨r0, rg_sm (x := Y - f 3 6) (by omega) (by omega)⟩ ?_
  refine And.intro ⟨by decide, by decide⟩ (And.intro ⟨rg_sm (by omega) (by omega), rg_sm (x := a * 1) (by omega) (by omega)⟩ ?_)
  refine And.intro ⟨by decide, by decide⟩ (And.intro ⟨rg_sm (by omega) (by omega), rg_sm (x := b * 1) (by omega) (by omega)⟩ ?_)
  refine And.intro ⟨by decide, by decide⟩ ?_
  refine And.intro ⟨rg_sm (x := X - (if 0 < Y - f 3 6 then Y - f 3 6 else 0)) (by rw [e40]; omega) (by rw [e40]; omega), r5⟩ (And.intro (fun h => ?_) (fun h => ?_))
  · have h : X - (if 0 < Y - f 3 6 then Y - f 3 6 else 0) < 5 := h
    rw [e40] at h
    refine And.intro ⟨by decide, by decide⟩ ?_
    refine And.intro ⟨rg_sm (by omega) (by omega), r5⟩ (And.intro (fun h2 => ?_) (fun h2 => ?_))
    · have h2 : Y < 5 := h2
      exact And.intro rfl (fin 0 0 (by rw [if_pos (by omega)]) (by rw [if_pos h2]))
    · have h2 : ¬ Y < 5 := h2
      exact And.intro rfl (fin 0 (if Y < b * 1 then Y else b * 1) (by rw [if_pos (by omega)]) (by rw [if_neg h2, eb]))
  · have h : ¬ X - (if 0 < Y - f 3 6 then Y - f 3 6 else 0) < 5 := h
    rw [e40] at h
    refine And.intro ⟨by decide, by decide⟩ ?_
    refine And.intro ⟨rg_sm (by omega) (by omega), r5⟩ (And.intro (fun h2 => ?_) (fun h2 => ?_))
    · have h2 : Y < 5 := h2
      exact And.intro rfl (fin (if X < a * 1 then X else a * 1) 0 (by rw [if_neg (by omega), ea]) (by rw [if_pos h2]))
    · have h2 : ¬ Y < 5 := h2
      exact And.intro rfl (fin (if X < a * 1 then X else a * 1) (if Y < b * 1 then Y else b * 1) (by rw [if_neg (by omega), ea]) (by rw [if_neg h2, eb]))
theorem c_passQ48 {q a b : Int} (hq : 0 ≤ q ∧ q < 96) (hu : 0 ≤ fi 48 0 ∧ fi 48 0 ≤ 20) (hl : 0 ≤ fi 48 1 ∧ fi 48 1 ≤ 20) (hw : 0 ≤ fi 48 2 ∧ fi 48 2 ≤ 3) (ha : 0 ≤ a ∧ a ≤ 3) (hb : 0 ≤ b ∧ b ≤ 3) (hmk : fi 3 6 = 40) (hP : ∀ fi', pqO48 a b fi fi' → P (.inl none) fi' (dF fr) (cA ai) al) :
    Call 1 scL scX (d + 1) 13 [.inr (.inl (some 48)), .inr (.inl (some 3)), .inl q, .inl a, .inl b] N fi (dF fr) (cA ai) al N P := by
  refine ⟨⟨Nat.le_refl _, rfl⟩, pq1_48 hq hu hl hw (fun s t => pq2_48 (gX_b hu) (gY_b hl hw) ha hb hmk (fun f' e0 e1 e2 e8 e9 eo => hP f' ⟨e0, e1, e2, e8, e9, fun o ho => by rw [eo o ho, up2_row ho, up2_row ho]⟩))⟩
def Lp32 (q a b : Int) (x5 x6 : Option av) : List (Option av) := [some (.inr (.inl (some 32))), some (.inr (.inl (some 3))), some (.inl q), some (.inl a), some (.inl b), x5, x6]
set_option maxRecDepth 4096 in
theorem pq1_32 {q a b : Int} (hq : 0 ≤ q ∧ q < 96) (hu : 0 ≤ fi 32 0 ∧ fi 32 0 ≤ 20) (hl : 0 ≤ fi 32 1 ∧ fi 32 1 ≤ 20) (hw : 0 ≤ fi 32 2 ∧ fi 32 2 ≤ 3) {x5 x6 : Option av}
    (hk : ∀ s t, Rc 1 (Call 1 scL scX d) (mt 13) P N scL scX 76 (Lp32 q a b (some (.inl (gX (fi 32 0)))) (some (.inl (gY (fi 32 1) (fi 32 2))))) [] N (up2 (up2 fi 32 3 s) 32 4 t) (dF fr) (cA ai) al) :
    Rc 1 (Call 1 scL scX d) (mt 13) P N scL scX 0 (Lp32 q a b x5 x6) [] N fi (dF fr) (cA ai) al := by
  have hk := hk (if 0 < fi 32 0 + 2 - 20 then fi 32 0 + 2 - 20 else 0) (if 0 < fi 32 1 + fi 32 2 - 20 then fi 32 1 + fi 32 2 - 20 else 0)
  unfold gX gY at hk
  rw [← mx20, ← mx20] at hk
  have r0 : rg 0 := ⟨by decide, by decide⟩
  refine rc_go [76] 60 ?_
  refine And.intro ⟨hq.1, by show q < 96; omega⟩ ?_
  refine And.intro ⟨by decide, by decide⟩ (And.intro ⟨r0, rg_sm (x := fi 32 0 + 2 - 20) (by omega) (by omega)⟩ ?_)
  refine And.intro ⟨by decide, by decide⟩ (And.intro ⟨r0, rg_sm (x := fi 32 1 + fi 32 2 - 20) (by omega) (by omega)⟩ ?_)
  exact hk
/-- what passQuarter does to its flow -/
def pqO32 (a b : Int) (fi fi' : tF) : Prop := fi' 32 0 = gX (fi 32 0) - gM a (gX (fi 32 0)) ∧ fi' 32 1 = gY (fi 32 1) (fi 32 2) - gM b (gY (fi 32 1) (fi 32 2)) ∧ fi' 32 2 = gM a (gX (fi 32 0)) ∧ fi' 32 8 = (if gX (fi 32 0) < 5 then 0 else gM a (gX (fi 32 0))) ∧ fi' 32 9 = (if gY (fi 32 1) (fi 32 2) < 5 then 0 else gM b (gY (fi 32 1) (fi 32 2))) ∧ (∀ o, o ≠ 32 → fi' o = fi o)
set_option maxRecDepth 8192 in
set_option maxHeartbeats 2000000 in
theorem pq2_32 {f : tF} {q a b X Y : Int} (hX : 0 ≤ X ∧ X ≤ 20) (hY : 0 ≤ Y ∧ Y ≤ 20) (ha : 0 ≤ a ∧ a ≤ 3) (hb : 0 ≤ b ∧ b ≤ 3) (hmk : f 3 6 = 40)
    (hP : ∀ f', f' 32 0 = X - gM a X → f' 32 1 = Y - gM b Y → f' 32 2 = gM a X → f' 32 8 = (if X < 5 then 0 else gM a X) → f' 32 9 = (if Y < 5 then 0 else gM b Y) → (∀ o, o ≠ 32 → f' o = f o) → P (.inl none) f' (dF fr) (cA ai) al) :
    Rc 1 (Call 1 scL scX d) (mt 13) P N scL scX 76 (Lp32 q a b (some (.inl X)) (some (.inl Y))) [] N f (dF fr) (cA ai) al := by
  have r0 : rg 0 := ⟨by decide, by decide⟩
  have r5 : rg 5 := ⟨by decide, by decide⟩
  have e40 : (if 0 < Y - f 3 6 then Y - f 3 6 else 0) = 0 := by rw [hmk, if_neg (by omega)]
  have ea := gM_min (o := a) (up := X)
  have eb := gM_min (o := b) (up := Y)
  have fin : ∀ g h, (if X < 5 then 0 else gM a X) = g → (if Y < 5 then 0 else gM b Y) = h → P (.inl none) (up2 (up2 (up2 (up2 (up2 (up2 (up2 (up2 f 32 5 (if 0 < Y - f 3 6 then Y - f 3 6 else 0)) 32 6 (if X < a * 1 then X else a * 1)) 32 7 (if Y < b * 1 then Y else b * 1)) 32 8 g) 32 9 h) 32 0 (X - (if X < a * 1 then X else a * 1))) 32 1 (Y - (if Y < b * 1 then Y else b * 1))) 32 2 (if X < a * 1 then X else a * 1)) (dF fr) (cA ai) al := by
    intro g h eg eh
    rw [ea, eb]
    exact hP _ rfl rfl rfl eg.symm eh.symm (fun o ho => by rw [up2_row ho, up2_row ho, up2_row ho, up2_row ho, up2_row ho, up2_row ho, up2_row ho, up2_row ho])
  refine rc_go [] 140 ?_
  refine And.intro ⟨r0, rg_sm (x := Y - f 3 6) (by omega) (by omega)⟩ ?_
  refine And.intro ⟨by decide, by decide⟩ (And.intro ⟨rg_sm (by omega) (by omega), rg_sm (x := a * 1) (by omega) (by omega)⟩ ?_)
  refine And.intro ⟨by decide, by decide⟩ (And.intro ⟨rg_sm (by omega) (by omega), rg_sm (x := b * 1) (by omega) (by omega)⟩ ?_)
  refine And.intro ⟨by decide, by decide⟩ ?_
  refine And.intro ⟨rg_sm (x := X - (if 0 < Y - f 3 6 then Y - f 3 6 else 0)) (by rw [e40]; omega) (by rw [e40]; omega), r5⟩ (And.intro (fun h => ?_) (fun h => ?_))
  · have h : X - (if 0 < Y - f 3 6 then Y - f 3 6 else 0) < 5 := h
    rw [e40] at h
    refine And.intro ⟨by decide, by decide⟩ ?_
    refine And.intro ⟨rg_sm (by omega) (by omega), r5⟩ (And.intro (fun h2 => ?_) (fun h2 => ?_))
    · have h2 : Y < 5 := h2
      exact And.intro rfl (fin 0 0 (by rw [if_pos (by omega)]) (by rw [if_pos h2]))
    · have h2 : ¬ Y < 5 := h2
      exact And.intro rfl (fin 0 (if Y < b * 1 then Y else b * 1) (by rw [if_pos (by omega)]) (by rw [if_neg h2, eb]))
  · have h : ¬ X - (if 0 < Y - f 3 6 then Y - f 3 6 else 0) < 5 := h
    rw [e40] at h
    refine And.intro ⟨by decide, by decide⟩ ?_
    refine And.intro ⟨rg_sm (by omega) (by omega), r5⟩ (And.intro (fun h2 => ?_) (fun h2 => ?_))
    · have h2 : Y < 5 := h2
      exact And.intro rfl (fin (if X < a * 1 then X else a * 1) 0 (by rw [if_neg (by omega), ea]) (by rw [if_pos h2]))
    · have h2 : ¬ Y < 5 := h2
      exact And.intro rfl (fin (if X < a * 1 then X else a * 1) (if Y < b * 1 then Y else b * 1) (by rw [if_neg (by omega), ea]) (by rw [if_neg h2, eb]))
theorem c_passQ32 {q a b : Int} (hq : 0 ≤ q ∧ q < 96) (hu : 0 ≤ fi 32 0 ∧ fi 32 0 ≤ 20) (hl : 0 ≤ fi 32 1 ∧ fi 32 1 ≤ 20) (hw : 0 ≤ fi 32 2 ∧ fi 32 2 ≤ 3) (ha : 0 ≤ a ∧ a ≤ 3) (hb : 0 ≤ b ∧ b ≤ 3) (hmk : fi 3 6 = 40) (hP : ∀ fi', pqO32 a b fi fi' → P (.inl none) fi' (dF fr) (cA ai) al) :
    Call 1 scL scX (d + 1) 13 [.inr (.inl (some 32)), .inr (.inl (some 3)), .inl q, .inl a, .inl b] N fi (dF fr) (cA ai) al N P := by
  refine ⟨⟨Nat.le_refl _, rfl⟩, pq1_32 hq hu hl hw (fun s t => pq2_32 (gX_b hu) (gY_b hl hw) ha hb hmk (fun f' e0 e1 e2 e8 e9 eo => hP f' ⟨e0, e1, e2, e8, e9, fun o ho => by rw [eo o ho, up2_row ho, up2_row ho]⟩))⟩
/-- the flow along a day -/
def cD (s : Int × Int × Int) (fi : tF) : Prop := fi 48 0 = s.1 ∧ fi 48 1 = s.2.1 ∧ fi 48 2 = s.2.2
/-- the rows that passAll writes -/
def paO (s : Int × Int × Int) (A B : Nat → Int) (a0 : tF) (q : Nat) (a : tF) : Prop := (∀ o, o < 43 ∨ 47 < o → a o = a0 o) ∧ ∀ k, k < q → a 44 k = dA s A B k ∧ a 44 (96 + k) = dB s A B k
set_option maxRecDepth 8192 in
set_option maxHeartbeats 2000000 in
theorem pa_l {s : Int × Int × Int} {A B : Nat → Int} {a0 f0 : tF} (hs : okW3 s) (hA : ab3 A) (hB : ab3 B) (hoA : ∀ q, q < 96 → a0 42 q = A q) (hoB : ∀ q, q < 96 → a0 42 (96 + q) = B q) (hmk : f0 3 6 = 40)
    (hP : ∀ fi' ai', cD (dU s A B 96) fi' → (∀ o, o ≠ 48 → fi' o = f0 o) → paO s A B a0 96 ai' → P (.inl none) fi' (dF fr) (cA ai') al) :
    ∀ (n q : Nat) (f a : tF) (x3 : Option av), q + n = 96 → cD (dU s A B q) f → (∀ o, o ≠ 48 → f o = f0 o) → paO s A B a0 q a → Rc 1 (Call 1 scL scX (d + 1)) (mt 5) P N scL scX 2 [some (.inr (.inl (some 41))), some (.inr (.inl (some 3))), some (.inl (q : Int)), x3] [] N f (dF fr) (cA a) al := by
  intro n
  induction n with
  | zero =>
    intro q f a x3 hn hD hf ha
    have e : q = 96 := by omega
    subst e
    refine rc_go [] 10 ?_
    exact And.intro ⟨⟨by decide, by decide⟩, ⟨by decide, by decide⟩⟩ (And.intro (fun _ => And.intro rfl (hP f a hD hf ha)) (fun h => absurd (by decide : (96 : Int) ≤ 96) h))
  | succ n ih =>
    intro q f a x3 hn hD hf ha
    have bs := dU_b hs hA hB q (by omega)
    unfold okW3 at bs
    obtain ⟨e0, e1, e2⟩ := hD
    have i1 : inb (q : Int) 192 := ⟨by omega, by show (q : Int) < 192; omega⟩
    have i2 : inb (96 + (q : Int)) 192 := ⟨by omega, by show 96 + (q : Int) < 192; omega⟩
    have i3 : inb (q : Int) 96 := ⟨by omega, by show (q : Int) < 96; omega⟩
    have oA : a 42 q = A q := by rw [ha.1 42 (Or.inl (by decide))]; exact hoA q (by omega)
    have oB : a 42 (96 + q) = B q := by rw [ha.1 42 (Or.inl (by decide))]; exact hoB q (by omega)
    have bA := hA q (by omega)
    have bB := hB q (by omega)
    rw [← oA] at bA
    rw [← oB] at bB
    refine rc_go [2] 140 ?_
    refine And.intro ⟨rg_sm (by omega) (by omega), ⟨by decide, by decide⟩⟩ (And.intro (fun h => absurd (show (96 : Int) ≤ (q : Int) from h) (by omega)) (fun _ => ?_))
    refine And.intro i1 (And.intro i2 ?_)
    refine Exists.intro N (And.intro ⟨Nat.le_refl _, Nat.le_refl _⟩ (c_passQ48 (a := a 42 q) (b := a 42 (96 + q)) ⟨by omega, by omega⟩ (by rw [e0]; exact bs.1) (by rw [e1]; exact bs.2.1) (by rw [e2]; exact bs.2.2) bA bB ((congrFun (hf 3 (by decide)) 6).trans hmk) (fun f1 h1 => ?_)))
    obtain ⟨g0, g1, g2, g8, g9, go⟩ := h1
    rw [e0, oA] at g0 g2 g8
    rw [e1, e2, oB] at g1 g9
    have key := ih (q + 1) f1 (up2 (up2 (up2 (up2 (up2 (up2 (up2 (up2 (up2 a 43 q (f1 48 0)) 43 (96 + q) (f1 48 1)) 44 q (f1 48 8)) 44 (96 + q) (f1 48 9)) 45 q (f1 48 6)) 45 (96 + q) (f1 48 7)) 46 q (f1 48 3)) 46 (96 + q) (f1 48 4)) 47 q (f1 48 5)) (some (.inl (96 + (q : Int)))) (by omega) ⟨g0, g1, g2⟩ (fun o ho => (go o ho).trans (hf o ho)) ⟨fun o ho => by
        rw [up2_row (by omega), up2_row (by omega), up2_row (by omega), up2_row (by omega), up2_row (by omega), up2_row (by omega), up2_row (by omega), up2_row (by omega), up2_row (by omega)]
        exact ha.1 o ho, fun k hk => by
        rw [up2_row (by decide), up2_row (by decide), up2_row (by decide), up2_row (by decide), up2_row (by decide)]
        by_cases e : k = q
        · subst e
          refine ⟨?_, ?_⟩
          · rw [up2_if, if_neg (by omega), up2_if, if_pos ⟨rfl, rfl⟩]
            exact g8
          · rw [up2_if, if_pos ⟨rfl, rfl⟩]
            exact g9
        · refine ⟨?_, ?_⟩
          · rw [up2_if, if_neg (by omega), up2_if, if_neg (by omega), up2_row (by decide), up2_row (by decide)]
            exact (ha.2 k (by omega)).1
          · rw [up2_if, if_neg (by omega), up2_if, if_neg (by omega), up2_row (by decide), up2_row (by decide)]
            exact (ha.2 k (by omega)).2⟩
    rw [← cA_up rfl, ← cA_up rfl, ← cA_up rfl, ← cA_up rfl, ← cA_up rfl, ← cA_up rfl, ← cA_up rfl, ← cA_up rfl, ← cA_up rfl] at key
    refine And.intro i1 (And.intro i2 (And.intro i1 (And.intro i2 (And.intro i1 (And.intro i2 (And.intro i1 (And.intro i2 (And.intro i3 ?_))))))))
    exact key
theorem c_passAll {s : Int × Int × Int} {A B : Nat → Int} (hs : okW3 s) (hA : ab3 A) (hB : ab3 B) (hoA : ∀ q, q < 96 → ai 42 q = A q) (hoB : ∀ q, q < 96 → ai 42 (96 + q) = B q) (hmk : fi 3 6 = 40) (hD : cD s fi)
    (hP : ∀ fi' ai', cD (dU s A B 96) fi' → (∀ o, o ≠ 48 → fi' o = fi o) → paO s A B ai 96 ai' → P (.inl none) fi' (dF fr) (cA ai') al) :
    Call 1 scL scX (d + 2) 5 [.inr (.inl (some 41)), .inr (.inl (some 3))] N fi (dF fr) (cA ai) al N P := by
  refine ⟨⟨Nat.le_refl _, rfl⟩, rc_go [2] 10 ?_⟩
  exact pa_l hs hA hB hoA hoB hmk hP 96 0 fi ai none (by decide) hD (fun _ _ => rfl) ⟨fun _ _ => rfl, fun k hk => by omega⟩
/-- sums of a row -/
def smN (v : Nat → Int) : Nat → Int
  | 0 => 0
  | k + 1 => smN v k + v k
theorem so_l {m : Int} {v : Nat → Int} (hm : m = 0 ∨ m = 1) (hv : ∀ k, k < 96 → ai 44 ((m * 96).toNat + k) = v k) (hP : P (.inl (some (.inl (smN v 96)))) fi (dF fr) (cA ai) al) : ∀ (n k : Nat), k + n = 96 → Rc 1 (Call 1 scL scX d) (mt 7) P N scL scX 5 [some (.inr (.inl (some 41))), some (.inr (.inl (some 44))), some (.inl m), some (.inl (smN v k)), some (.inl (k : Int))] [] N fi (dF fr) (cA ai) al := by
  intro n
  induction n with
  | zero =>
    intro k hn
    have e : k = 96 := by omega
    subst e
    refine rc_go [] 12 ?_
    exact And.intro ⟨⟨by decide, by decide⟩, ⟨by decide, by decide⟩⟩ (And.intro (fun _ => And.intro rfl hP) (fun h => absurd (by decide : (96 : Int) ≤ 96) h))
  | succ n ih =>
    intro k hn
    have key : Rc 1 (Call 1 scL scX d) (mt 7) P N scL scX 5 [some (.inr (.inl (some 41))), some (.inr (.inl (some 44))), some (.inl m), some (.inl (smN v k + v k)), some (.inl ((k : Int) + 1))] [] N fi (dF fr) (cA ai) al := ih (k + 1) (by omega)
    rw [← hv k (by omega), show (m * 96).toNat + k = (m * 96 + (k : Int)).toNat by omega] at key
    refine rc_go [5] 20 ?_
    refine And.intro ⟨rg_sm (by omega) (by omega), ⟨by decide, by decide⟩⟩ (And.intro (fun h => absurd (show (96 : Int) ≤ (k : Int) from h) (by omega)) (fun _ => ?_))
    refine And.intro ⟨by omega, by show m * 96 + (k : Int) < 192; omega⟩ ?_
    exact key
theorem c_sumOf {m : Int} {v : Nat → Int} (hm : m = 0 ∨ m = 1) (hv : ∀ k, k < 96 → ai 44 ((m * 96).toNat + k) = v k) (hP : P (.inl (some (.inl (smN v 96)))) fi (dF fr) (cA ai) al) : Call 1 scL scX (d + 1) 7 [.inr (.inl (some 41)), .inr (.inl (some 44)), .inl m] N fi (dF fr) (cA ai) al N P := by
  refine ⟨⟨Nat.le_refl _, rfl⟩, rc_go [5] 10 ?_⟩
  exact so_l hm hv hP 96 0 (by decide)
theorem smN_A {s : Int × Int × Int} {A B : Nat → Int} : ∀ k, smN (dA s A B) k = sA s A B k
  | 0 => rfl
  | k + 1 => by
    show smN (dA s A B) k + dA s A B k = sA s A B k + dA s A B k
    rw [smN_A k]
theorem smN_B {s : Int × Int × Int} {A B : Nat → Int} : ∀ k, smN (dB s A B) k = sB s A B k
  | 0 => rfl
  | k + 1 => by
    show smN (dB s A B) k + dB s A B k = sB s A B k + dB s A B k
    rw [smN_B k]
/-- sumOf of the ground row behind a day -/
theorem c_sumG {s : Int × Int × Int} {A B : Nat → Int} {a0 : tF} {m V : Int} (hm : m = 0 ∨ m = 1) (ha : paO s A B a0 96 ai) (hV : (if m = 0 then sA s A B 96 else sB s A B 96) = V) (hP : P (.inl (some (.inl V))) fi (dF fr) (cA ai) al) : Call 1 scL scX (d + 1) 7 [.inr (.inl (some 41)), .inr (.inl (some 44)), .inl m] N fi (dF fr) (cA ai) al N P := by
  rcases hm with rfl | rfl
  · rw [if_pos rfl, ← smN_A] at hV
    refine c_sumOf (v := dA s A B) (Or.inl rfl) (fun k hk => ?_) (by rw [hV]; exact hP)
    rw [show ((0 : Int) * 96).toNat + k = k by omega]
    exact (ha.2 k hk).1
  · rw [if_neg (by decide), ← smN_B] at hV
    refine c_sumOf (v := dB s A B) (Or.inr rfl) (fun k hk => ?_) (by rw [hV]; exact hP)
    exact (ha.2 k hk).2
/-- what a day leaves -/
def gdO (A B : Nat → Int) (fi ai fi' ai' : tF) : Prop := cD (dU s0 A B 96) fi' ∧ (∀ o, o ≠ 48 → fi' o = fi o) ∧ (∀ o, o < 42 ∨ 47 < o → ai' o = ai o) ∧ ∃ a0, paO s0 A B a0 96 ai'
theorem c_goDay {A B : Nat → Int} (hA : ab3 A) (hB : ab3 B) (hoA : ∀ q, q < 96 → ai 29 q = A q) (hoB : ∀ q, q < 96 → ai 29 (96 + q) = B q) (hmk : fi 3 6 = 40)
    (hP : ∀ fi' ai', gdO A B fi ai fi' ai' → P (.inl none) fi' (dF fr) (cA ai') al) :
    Call 1 scL scX (d + 3) 112 [.inr (.inl (some 0))] N fi (dF fr) (cA ai) al N P := by
  have hp : ∀ k, k < 192 → 0 ≤ ai 29 k ∧ ai 29 k ≤ 3 := by
    intro k hk
    by_cases h : k < 96
    · rw [hoA k h]; exact hA k h
    · obtain ⟨j, rfl⟩ := Nat.exists_eq_add_of_le (Nat.le_of_not_lt h)
      rw [hoB j (by omega)]; exact hB j (by omega)
  have oo : ∀ k, k < 192 → cpQ ai 42 29 192 42 k = ai 29 k := fun k hk => by
    unfold cpQ
    rw [if_pos ⟨rfl, hk⟩]
  refine ⟨⟨Nat.le_refl _, rfl⟩, rc_go [] 30 ?_⟩
  refine Exists.intro N (And.intro ⟨Nat.le_refl _, Nat.le_refl _⟩ (c_openAs hp ?_))
  refine Exists.intro N (And.intro ⟨Nat.le_refl _, Nat.le_refl _⟩ (c_start ?_))
  refine Exists.intro N (And.intro ⟨Nat.le_refl _, Nat.le_refl _⟩ (c_passAll (s := s0) (A := A) (B := B) s0_ok hA hB (fun q hq => by rw [oo q (by omega)]; exact hoA q hq) (fun q hq => by rw [oo (96 + q) (by omega)]; exact hoB q hq) hmk ⟨rfl, rfl, rfl⟩ (fun f1 a1 hD hf ha => ?_)))
  refine And.intro rfl (hP f1 a1 ⟨hD, fun o ho => ?_, fun o ho => ?_, _, ha⟩)
  · rw [hf o ho, up2_row ho, up2_row ho, up2_row ho]
  · rw [ha.1 o (by omega), cpQ_row (by omega)]
theorem c_groundP {A B : Nat → Int} {m V : Int} (hm : m = 0 ∨ m = 1) (hA : ab3 A) (hB : ab3 B) (hoA : ∀ q, q < 96 → ai 29 q = A q) (hoB : ∀ q, q < 96 → ai 29 (96 + q) = B q) (hmk : fi 3 6 = 40) (hV : sM m A B = V)
    (hP : ∀ fi' ai', gdO A B fi ai fi' ai' → P (.inl (some (.inl V))) fi' (dF fr) (cA ai') al) :
    Call 1 scL scX (d + 4) 113 [.inr (.inl (some 0)), .inl m] N fi (dF fr) (cA ai) al N P := by
  refine ⟨⟨Nat.le_refl _, rfl⟩, rc_go [] 30 ?_⟩
  refine Exists.intro N (And.intro ⟨Nat.le_refl _, Nat.le_refl _⟩ (c_goDay hA hB hoA hoB hmk (fun f1 a1 hg => ?_)))
  obtain ⟨a0, ha⟩ := hg.2.2.2
  refine Exists.intro N (And.intro ⟨Nat.le_refl _, Nat.le_refl _⟩ (c_sumG hm ha hV ?_))
  exact And.intro rfl (hP f1 a1 hg)
end CDay
