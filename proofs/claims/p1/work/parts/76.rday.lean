/-! the reference's day: a quarter goes (by gen76.py) -/
section RDay
variable {scL : Nat} {scX : Nat → Int} {d N : Nat} {fi : tF} {fr : tR} {ai : tF} {al : tL} {P : ot}
def flO0 (inch : Int) (ai ai' : tF) : Prop := (∀ o, o ≠ 112 → o ≠ 114 → ai' o = ai o) ∧ ai' 112 0 = min (ai 112 0 + inch) 20 ∧ ai' 112 1 = ai 112 1 ∧ ai' 114 0 = ai 114 0
set_option maxRecDepth 4096 in
theorem c_fills0 {inch : Int} (hu : 0 ≤ ai 112 0 ∧ ai 112 0 ≤ 20) (hi : 0 ≤ inch ∧ inch ≤ 3) (hP : ∀ ai', flO0 inch ai ai' → P (.inl none) fi (rF fr) (rA ai') al) : Call 1 scL scX (d + 1) 152 [.inr (.inl (some 54)), .inl 0, .inl inch] N fi (rF fr) (rA ai) al N P := by
  have i2 : inb 0 2 := ⟨by decide, by decide⟩
  refine ⟨⟨Nat.le_refl _, rfl⟩, rc_go [] 50 ?_⟩
  refine And.intro i2 (And.intro i2 (And.intro i2 (And.intro ⟨by decide, by decide⟩ ?_)))
  refine And.intro ⟨rg_sm (x := ai 112 0 + inch - 20) (by omega) (by omega), ⟨by decide, by decide⟩⟩ (And.intro (fun h => ?_) (fun h => ?_))
  · have h : 0 < ai 112 0 + inch - 20 := h
    refine And.intro i2 (And.intro i2 ?_)
    refine And.intro ⟨by decide, by decide⟩ (And.intro ⟨by decide, by decide⟩ (And.intro ⟨by decide, by decide⟩ ?_))
    have k := hP (up2 (up2 (up2 ai 112 0 (ai 112 0 + inch)) 112 0 (ai 112 0 + inch - (ai 112 0 + inch - 20))) 114 3 (ai 114 3 + (ai 112 0 + inch - 20))) ⟨fun o h1 h2 => by rw [up2_row h2, up2_row h1, up2_row h1], by
      rw [up2_row (by decide), up2_if, if_pos ⟨rfl, rfl⟩]
      omega, by rw [up2_row (by decide), up2_if, if_neg (by decide), up2_if, if_neg (by decide)], by rw [up2_if, if_neg (by decide), up2_row (by decide), up2_row (by decide)]⟩
    rw [← rA_up (by decide) (by decide), ← rA_up (by decide) (by decide), ← rA_up (by decide) (by decide)] at k
    exact And.intro rfl k
  · have h : ¬ 0 < ai 112 0 + inch - 20 := h
    have k := hP (up2 ai 112 0 (ai 112 0 + inch)) ⟨fun o h1 h2 => by rw [up2_row h1], by
      rw [up2_if, if_pos ⟨rfl, rfl⟩]
      omega, by rw [up2_if, if_neg (by decide)], by rw [up2_row (by decide)]⟩
    rw [← rA_up (by decide) (by decide)] at k
    exact And.intro rfl k
def ltO0 (g : Int) (ai ai' : tF) : Prop := (∀ o, o ≠ 114 → o ≠ 120 → ai' o = ai o) ∧ ai' 114 0 = ai 114 0 + g
set_option maxRecDepth 4096 in
set_option maxHeartbeats 2000000 in
theorem c_lets0 {a f q : Int} (hu : 0 ≤ ai 112 0 ∧ ai 112 0 ≤ 20) (ha : 0 ≤ a ∧ a ≤ 3) (hf : -100 ≤ f ∧ f ≤ 100) (hq : 0 ≤ q ∧ q < 96) (hP : ∀ ai', ltO0 (if f < 5 then 0 else gM a (ai 112 0)) ai ai' → P (.inl (some (.inl (gM a (ai 112 0))))) fi (rF fr) (rA ai') al) : Call 1 scL scX (d + 2) 154 [.inr (.inl (some 54)), .inl 0, .inl a, .inl f, .inl q] N fi (rF fr) (rA ai) al N P := by
  have bm := gM_b ha hu
  have iq : inb q 96 := ⟨hq.1, by show q < 96; omega⟩
  have i2 : inb 0 2 := ⟨by decide, by decide⟩
  refine ⟨⟨Nat.le_refl _, rfl⟩, rc_go [] 120 ?_⟩
  refine And.intro ⟨by decide, by decide⟩ (And.intro i2 ?_)
  refine Exists.intro N (And.intro ⟨Nat.le_refl _, Nat.le_refl _⟩ (c_less (a := a * 1) (b := ai 112 0) (rg_sm (by omega) (by omega)) (rg_sm (by omega) (by omega)) ?_))
  refine And.intro ⟨by decide, by decide⟩ ?_
  refine And.intro ⟨rg_sm (by omega) (by omega), show rg 5 from ⟨by decide, by decide⟩⟩ (And.intro (fun h => ?_) (fun h => ?_))
  · have h : f < 5 := h
    rw [if_pos h] at hP
    have k := hP (up2 (up2 (up2 (up2 ai 114 1 (ai 114 1 + gM a (ai 112 0))) 114 2 (ai 114 2 + gM a (ai 112 0))) 114 4 (ai 114 4 + 0)) 120 q.toNat 0) ⟨fun o h1 h2 => by rw [up2_row h2, up2_row h1, up2_row h1, up2_row h1], by rw [up2_row (by decide), up2_if, if_neg (by decide), up2_if, if_neg (by decide), up2_if, if_neg (by decide)]; omega⟩
    rw [← rA_up (by decide) (by decide), ← rA_up (by decide) (by decide), ← rA_up (by decide) (by decide), ← rA_up (by decide) (by decide)] at k
    refine And.intro i2 (And.intro ⟨by decide, by decide⟩ (And.intro ⟨by decide, by decide⟩ ?_))
    refine And.intro i2 ?_
    refine And.intro (fun _ => ?_) (fun h => absurd rfl h)
    refine And.intro ⟨by decide, by decide⟩ (And.intro ⟨by decide, by decide⟩ ?_)
    refine And.intro i2 (And.intro ⟨by decide, by decide⟩ ?_)
    refine And.intro (fun _ => ?_) (fun h => absurd rfl h)
    refine And.intro ⟨by decide, by decide⟩ ?_
    refine And.intro i2 ?_
    refine And.intro (fun _ => ?_) (fun h => absurd rfl h)
    refine And.intro iq ?_
    exact And.intro rfl k
  · have h : ¬ f < 5 := h
    rw [if_neg h] at hP
    have k : ∀ e, P (.inl (some (.inl (gM a (ai 112 0))))) fi (rF fr) (up2 (up2 (up2 (up2 (rA ai) 114 1 (ai 114 1 + gM a (ai 112 0))) 114 0 (ai 114 0 + gM a (ai 112 0))) 114 4 (ai 114 4 + e)) 120 q.toNat (gM a (ai 112 0))) al := by
      intro e
      have k := hP (up2 (up2 (up2 (up2 ai 114 1 (ai 114 1 + gM a (ai 112 0))) 114 0 (ai 114 0 + gM a (ai 112 0))) 114 4 (ai 114 4 + e)) 120 q.toNat (gM a (ai 112 0))) ⟨fun o h1 h2 => by rw [up2_row h2, up2_row h1, up2_row h1, up2_row h1], by rw [up2_row (by decide), up2_if, if_neg (by decide), up2_if, if_pos ⟨rfl, rfl⟩]⟩
      rw [← rA_up (by decide) (by decide), ← rA_up (by decide) (by decide), ← rA_up (by decide) (by decide), ← rA_up (by decide) (by decide)] at k
      exact k
    refine And.intro i2 (And.intro ⟨by decide, by decide⟩ (And.intro ⟨by decide, by decide⟩ ?_))
    refine And.intro i2 ?_
    refine And.intro (fun h => absurd h (by decide)) (fun _ => And.intro ⟨by decide, by decide⟩ (And.intro ⟨by decide, by decide⟩ ?_))
    refine And.intro ⟨by decide, by decide⟩ (And.intro ⟨by decide, by decide⟩ ?_)
    refine And.intro i2 (And.intro ⟨by decide, by decide⟩ ?_)
    refine And.intro (fun h => absurd h (by decide)) (fun _ => And.intro ⟨by decide, by decide⟩ (And.intro ⟨by decide, by decide⟩ ?_))
    refine And.intro ⟨rg_sm (x := gM a (ai 112 0)) (by omega) (by omega), ⟨by decide, by decide⟩⟩ (And.intro (fun _ => ?_) (fun _ => ?_))
    · refine And.intro ⟨by decide, by decide⟩ ?_
      refine And.intro i2 ?_
      refine And.intro (fun h => absurd h (by decide)) (fun _ => And.intro ⟨by decide, by decide⟩ (And.intro ⟨by decide, by decide⟩ ?_))
      refine And.intro iq ?_
      exact And.intro rfl (k 0)
    · refine And.intro ⟨by decide, by decide⟩ ?_
      refine And.intro i2 ?_
      refine And.intro (fun h => absurd h (by decide)) (fun _ => And.intro ⟨by decide, by decide⟩ (And.intro ⟨by decide, by decide⟩ ?_))
      refine And.intro iq ?_
      exact And.intro rfl (k 1)
def flO1 (inch : Int) (ai ai' : tF) : Prop := (∀ o, o ≠ 112 → o ≠ 115 → ai' o = ai o) ∧ ai' 112 1 = min (ai 112 1 + inch) 20 ∧ ai' 112 0 = ai 112 0 ∧ ai' 115 0 = ai 115 0
set_option maxRecDepth 4096 in
theorem c_fills1 {inch : Int} (hu : 0 ≤ ai 112 1 ∧ ai 112 1 ≤ 20) (hi : 0 ≤ inch ∧ inch ≤ 3) (hP : ∀ ai', flO1 inch ai ai' → P (.inl none) fi (rF fr) (rA ai') al) : Call 1 scL scX (d + 1) 152 [.inr (.inl (some 54)), .inl 1, .inl inch] N fi (rF fr) (rA ai) al N P := by
  have i2 : inb 1 2 := ⟨by decide, by decide⟩
  refine ⟨⟨Nat.le_refl _, rfl⟩, rc_go [] 50 ?_⟩
  refine And.intro i2 (And.intro i2 (And.intro i2 (And.intro ⟨by decide, by decide⟩ ?_)))
  refine And.intro ⟨rg_sm (x := ai 112 1 + inch - 20) (by omega) (by omega), ⟨by decide, by decide⟩⟩ (And.intro (fun h => ?_) (fun h => ?_))
  · have h : 0 < ai 112 1 + inch - 20 := h
    refine And.intro i2 (And.intro i2 ?_)
    refine And.intro ⟨by decide, by decide⟩ (And.intro ⟨by decide, by decide⟩ (And.intro ⟨by decide, by decide⟩ ?_))
    have k := hP (up2 (up2 (up2 ai 112 1 (ai 112 1 + inch)) 112 1 (ai 112 1 + inch - (ai 112 1 + inch - 20))) 115 3 (ai 115 3 + (ai 112 1 + inch - 20))) ⟨fun o h1 h2 => by rw [up2_row h2, up2_row h1, up2_row h1], by
      rw [up2_row (by decide), up2_if, if_pos ⟨rfl, rfl⟩]
      omega, by rw [up2_row (by decide), up2_if, if_neg (by decide), up2_if, if_neg (by decide)], by rw [up2_if, if_neg (by decide), up2_row (by decide), up2_row (by decide)]⟩
    rw [← rA_up (by decide) (by decide), ← rA_up (by decide) (by decide), ← rA_up (by decide) (by decide)] at k
    exact And.intro rfl k
  · have h : ¬ 0 < ai 112 1 + inch - 20 := h
    have k := hP (up2 ai 112 1 (ai 112 1 + inch)) ⟨fun o h1 h2 => by rw [up2_row h1], by
      rw [up2_if, if_pos ⟨rfl, rfl⟩]
      omega, by rw [up2_if, if_neg (by decide)], by rw [up2_row (by decide)]⟩
    rw [← rA_up (by decide) (by decide)] at k
    exact And.intro rfl k
def ltO1 (g : Int) (ai ai' : tF) : Prop := (∀ o, o ≠ 115 → o ≠ 121 → ai' o = ai o) ∧ ai' 115 0 = ai 115 0 + g
set_option maxRecDepth 4096 in
set_option maxHeartbeats 2000000 in
theorem c_lets1 {a f q : Int} (hu : 0 ≤ ai 112 1 ∧ ai 112 1 ≤ 20) (ha : 0 ≤ a ∧ a ≤ 3) (hf : -100 ≤ f ∧ f ≤ 100) (hq : 0 ≤ q ∧ q < 96) (hP : ∀ ai', ltO1 (if f < 5 then 0 else gM a (ai 112 1)) ai ai' → P (.inl (some (.inl (gM a (ai 112 1))))) fi (rF fr) (rA ai') al) : Call 1 scL scX (d + 2) 154 [.inr (.inl (some 54)), .inl 1, .inl a, .inl f, .inl q] N fi (rF fr) (rA ai) al N P := by
  have bm := gM_b ha hu
  have iq : inb q 96 := ⟨hq.1, by show q < 96; omega⟩
  have i2 : inb 1 2 := ⟨by decide, by decide⟩
  refine ⟨⟨Nat.le_refl _, rfl⟩, rc_go [] 120 ?_⟩
  refine And.intro ⟨by decide, by decide⟩ (And.intro i2 ?_)
  refine Exists.intro N (And.intro ⟨Nat.le_refl _, Nat.le_refl _⟩ (c_less (a := a * 1) (b := ai 112 1) (rg_sm (by omega) (by omega)) (rg_sm (by omega) (by omega)) ?_))
  refine And.intro ⟨by decide, by decide⟩ ?_
  refine And.intro ⟨rg_sm (by omega) (by omega), show rg 5 from ⟨by decide, by decide⟩⟩ (And.intro (fun h => ?_) (fun h => ?_))
  · have h : f < 5 := h
    rw [if_pos h] at hP
    have k := hP (up2 (up2 (up2 (up2 ai 115 1 (ai 115 1 + gM a (ai 112 1))) 115 2 (ai 115 2 + gM a (ai 112 1))) 115 4 (ai 115 4 + 0)) 121 q.toNat 0) ⟨fun o h1 h2 => by rw [up2_row h2, up2_row h1, up2_row h1, up2_row h1], by rw [up2_row (by decide), up2_if, if_neg (by decide), up2_if, if_neg (by decide), up2_if, if_neg (by decide)]; omega⟩
    rw [← rA_up (by decide) (by decide), ← rA_up (by decide) (by decide), ← rA_up (by decide) (by decide), ← rA_up (by decide) (by decide)] at k
    refine And.intro i2 (And.intro ⟨by decide, by decide⟩ (And.intro ⟨by decide, by decide⟩ ?_))
    refine And.intro i2 ?_
    refine And.intro (fun _ => ?_) (fun h => absurd rfl h)
    refine And.intro ⟨by decide, by decide⟩ (And.intro ⟨by decide, by decide⟩ ?_)
    refine And.intro i2 (And.intro ⟨by decide, by decide⟩ ?_)
    refine And.intro (fun _ => ?_) (fun h => absurd rfl h)
    refine And.intro ⟨by decide, by decide⟩ ?_
    refine And.intro i2 ?_
    refine And.intro (fun _ => ?_) (fun h => absurd rfl h)
    refine And.intro iq ?_
    exact And.intro rfl k
  · have h : ¬ f < 5 := h
    rw [if_neg h] at hP
    have k : ∀ e, P (.inl (some (.inl (gM a (ai 112 1))))) fi (rF fr) (up2 (up2 (up2 (up2 (rA ai) 115 1 (ai 115 1 + gM a (ai 112 1))) 115 0 (ai 115 0 + gM a (ai 112 1))) 115 4 (ai 115 4 + e)) 121 q.toNat (gM a (ai 112 1))) al := by
      intro e
      have k := hP (up2 (up2 (up2 (up2 ai 115 1 (ai 115 1 + gM a (ai 112 1))) 115 0 (ai 115 0 + gM a (ai 112 1))) 115 4 (ai 115 4 + e)) 121 q.toNat (gM a (ai 112 1))) ⟨fun o h1 h2 => by rw [up2_row h2, up2_row h1, up2_row h1, up2_row h1], by rw [up2_row (by decide), up2_if, if_neg (by decide), up2_if, if_pos ⟨rfl, rfl⟩]⟩
      rw [← rA_up (by decide) (by decide), ← rA_up (by decide) (by decide), ← rA_up (by decide) (by decide), ← rA_up (by decide) (by decide)] at k
      exact k
    refine And.intro i2 (And.intro ⟨by decide, by decide⟩ (And.intro ⟨by decide, by decide⟩ ?_))
    refine And.intro i2 ?_
    refine And.intro (fun h => absurd h (by decide)) (fun _ => And.intro ⟨by decide, by decide⟩ (And.intro ⟨by decide, by decide⟩ ?_))
    refine And.intro ⟨by decide, by decide⟩ (And.intro ⟨by decide, by decide⟩ ?_)
    refine And.intro i2 (And.intro ⟨by decide, by decide⟩ ?_)
    refine And.intro (fun h => absurd h (by decide)) (fun _ => And.intro ⟨by decide, by decide⟩ (And.intro ⟨by decide, by decide⟩ ?_))
    refine And.intro ⟨rg_sm (x := gM a (ai 112 1)) (by omega) (by omega), ⟨by decide, by decide⟩⟩ (And.intro (fun _ => ?_) (fun _ => ?_))
    · refine And.intro ⟨by decide, by decide⟩ ?_
      refine And.intro i2 ?_
      refine And.intro (fun h => absurd h (by decide)) (fun _ => And.intro ⟨by decide, by decide⟩ (And.intro ⟨by decide, by decide⟩ ?_))
      refine And.intro iq ?_
      exact And.intro rfl (k 0)
    · refine And.intro ⟨by decide, by decide⟩ ?_
      refine And.intro i2 ?_
      refine And.intro (fun h => absurd h (by decide)) (fun _ => And.intro ⟨by decide, by decide⟩ (And.intro ⟨by decide, by decide⟩ ?_))
      refine And.intro iq ?_
      exact And.intro rfl (k 1)
theorem c_backNow (hu : 0 ≤ ai 112 1 ∧ ai 112 1 ≤ 20) (hP : P (.inl (some (.inl 0))) fi (rF fr) (rA ai) al) : Call 1 scL scX (d + 1) 153 [.inr (.inl (some 54))] N fi (rF fr) (rA ai) al N P := by
  refine ⟨⟨Nat.le_refl _, rfl⟩, rc_go [] 30 ?_⟩
  refine And.intro ⟨by decide, by decide⟩ (And.intro ⟨by decide, by decide⟩ ?_)
  refine And.intro ⟨rg_sm (x := ai 112 1) (by omega) (by omega), show rg 40 from ⟨by decide, by decide⟩⟩ (And.intro (fun _ => ?_) (fun h => absurd (show ai 112 1 ≤ 40 by omega) h))
  exact And.intro rfl hP
theorem c_thinned {a : Int} (h36 : fi 54 36 = -1) (hP : P (.inl (some (.inl a))) fi (rF fr) ai al) : Call 1 scL scX (d + 1) 150 [.inr (.inl (some 54)), .inl a] N fi (rF fr) ai al N P := by
  refine ⟨⟨Nat.le_refl _, rfl⟩, rc_go [] 20 ?_⟩
  refine And.intro (fun _ => ?_) (fun h => absurd h36 h)
  exact And.intro rfl hP
/-- what a quarter does -/
def qgO (a b : Int) (fi ai fi' ai' : tF) : Prop := ai' 112 0 = gX (ai 112 0) - gM a (gX (ai 112 0)) ∧ ai' 112 1 = gY (ai 112 1) (fi 54 30) - gM b (gY (ai 112 1) (fi 54 30)) ∧ fi' 54 30 = gM a (gX (ai 112 0)) ∧ ai' 114 0 = ai 114 0 + (if gX (ai 112 0) < 5 then 0 else gM a (gX (ai 112 0))) ∧ ai' 115 0 = ai 115 0 + (if gY (ai 112 1) (fi 54 30) < 5 then 0 else gM b (gY (ai 112 1) (fi 54 30))) ∧ (∀ o, o < 112 ∨ (121 < o ∧ o ≠ 125) → ai' o = ai o) ∧ (∀ o, o ≠ 54 → fi' o = fi o) ∧ (∀ k, k ≠ 30 → k ≠ 31 → fi' 54 k = fi 54 k)
set_option maxRecDepth 4096 in
set_option maxHeartbeats 2000000 in
theorem c_quarter {q a b : Int} (hq : 0 ≤ q ∧ q < 96) (hu : 0 ≤ ai 112 0 ∧ ai 112 0 ≤ 20) (hl : 0 ≤ ai 112 1 ∧ ai 112 1 ≤ 20) (hw : 0 ≤ fi 54 30 ∧ fi 54 30 ≤ 3) (ha : 0 ≤ a ∧ a ≤ 3) (hb : 0 ≤ b ∧ b ≤ 3) (h36 : fi 54 36 = -1) (hP : ∀ fi' ai', qgO a b fi ai fi' ai' → P (.inl none) fi' (rF fr) (rA ai') al) :
    Call 1 scL scX (d + 3) 155 [.inr (.inl (some 54)), .inl q, .inl a, .inl b] N fi (rF fr) (rA ai) al N P := by
  have iq : inb q 96 := ⟨hq.1, by show q < 96; omega⟩
  have bX := gX_b hu
  have bY := gY_b hl hw
  refine ⟨⟨Nat.le_refl _, rfl⟩, rc_go [] 120 ?_⟩
  refine Exists.intro N (And.intro ⟨Nat.le_refl _, Nat.le_refl _⟩ (c_comes hq.1 hq.2 ?_))
  refine Exists.intro N (And.intro ⟨Nat.le_refl _, Nat.le_refl _⟩ (c_comes hq.1 hq.2 ?_))
  refine Exists.intro N (And.intro ⟨Nat.le_refl _, Nat.le_refl _⟩ (c_fills0 hu ⟨by decide, by decide⟩ (fun a1 h1 => ?_)))
  obtain ⟨h11, h12, h13, h14⟩ := h1
  refine Exists.intro N (And.intro ⟨Nat.le_refl _, Nat.le_refl _⟩ (c_fills1 (inch := fi 54 30) (by rw [h13]; exact hl) hw (fun a2 h2 => ?_)))
  obtain ⟨h21, h22, h23, h24⟩ := h2
  have eX : a2 112 0 = gX (ai 112 0) := by rw [h23, h12, gX_mn]
  have eY : a2 112 1 = gY (ai 112 1) (fi 54 30) := by rw [h22, h13, gY_mn]
  refine Exists.intro N (And.intro ⟨Nat.le_refl _, Nat.le_refl _⟩ (c_backNow (by rw [eY]; exact bY) ?_))
  refine And.intro iq ?_
  rw [rA_up (by decide) (by decide)]
  refine Exists.intro N (And.intro ⟨Nat.le_refl _, Nat.le_refl _⟩ (c_thinned (show fi 54 36 = -1 from h36) ?_))
  refine And.intro ⟨by decide, by decide⟩ ?_
  have u0 : up2 a2 125 q.toNat 0 112 = a2 112 := up2_row (by decide)
  have eX1 : up2 a2 125 q.toNat 0 112 0 = gX (ai 112 0) := by rw [u0]; exact eX
  have eY1 : up2 a2 125 q.toNat 0 112 1 = gY (ai 112 1) (fi 54 30) := by rw [u0]; exact eY
  refine Exists.intro N (And.intro ⟨Nat.le_refl _, Nat.le_refl _⟩ (c_backNow (by rw [eY1]; exact bY) ?_))
  refine Exists.intro N (And.intro ⟨Nat.le_refl _, Nat.le_refl _⟩ (c_lets0 (f := up2 a2 125 q.toNat 0 112 0 - 0) (by rw [eX1]; exact bX) ha (by rw [eX1]; omega) hq (fun a3 h3 => ?_)))
  obtain ⟨h31, h32⟩ := h3
  rw [eX1] at h32 ⊢
  refine Exists.intro N (And.intro ⟨Nat.le_refl _, Nat.le_refl _⟩ (c_thinned (show fi 54 36 = -1 from h36) ?_))
  refine And.intro ⟨by decide, by decide⟩ ?_
  have eX3 : a3 112 0 = gX (ai 112 0) := by rw [h31 112 (by decide) (by decide)]; exact eX1
  have eY3 : a3 112 1 = gY (ai 112 1) (fi 54 30) := by rw [h31 112 (by decide) (by decide)]; exact eY1
  refine Exists.intro N (And.intro ⟨Nat.le_refl _, Nat.le_refl _⟩ (c_lets1 (f := a3 112 1) (by rw [eY3]; exact bY) hb (by rw [eY3]; omega) hq (fun a4 h4 => ?_)))
  obtain ⟨h41, h42⟩ := h4
  rw [eY3] at h42 ⊢
  have eX4 : a4 112 0 = gX (ai 112 0) := by rw [h41 112 (by decide) (by decide)]; exact eX3
  have eY4 : a4 112 1 = gY (ai 112 1) (fi 54 30) := by rw [h41 112 (by decide) (by decide)]; exact eY3
  have k := hP (up2 (up2 fi 54 31 (fi 54 31 + 2)) 54 30 (gM a (gX (ai 112 0)))) (up2 (up2 (up2 (up2 a4 112 0 (a4 112 0 - gM a (gX (ai 112 0)))) 112 1 (a4 112 1 - gM b (gY (ai 112 1) (fi 54 30)))) 117 q.toNat (a4 112 0 - gM a (gX (ai 112 0)))) 118 q.toNat (a4 112 1 - gM b (gY (ai 112 1) (fi 54 30)))) ⟨by
      rw [up2_row (by decide), up2_row (by decide), up2_if, if_neg (by decide), up2_if, if_pos ⟨rfl, rfl⟩, eX4], by
      rw [up2_row (by decide), up2_row (by decide), up2_if, if_pos ⟨rfl, rfl⟩, eY4], rfl, by
      rw [up2_row (by decide), up2_row (by decide), up2_row (by decide), up2_row (by decide), h41 114 (by decide) (by decide), h32, up2_row (by decide), h21 114 (by decide) (by decide), h14, show gX (ai 112 0) - 0 = gX (ai 112 0) by omega], by
      rw [up2_row (by decide), up2_row (by decide), up2_row (by decide), up2_row (by decide), h42, h31 115 (by decide) (by decide), up2_row (by decide), h24, h11 115 (by decide) (by decide)], fun o ho => by
      rw [up2_row (by omega), up2_row (by omega), up2_row (by omega), up2_row (by omega), h41 o (by omega) (by omega), h31 o (by omega) (by omega), up2_row (by omega), h21 o (by omega) (by omega), h11 o (by omega) (by omega)], fun o ho => by rw [up2_row ho, up2_row ho], fun k k1 k2 => by rw [up2_if, if_neg (fun z => k1 z.2), up2_if, if_neg (fun z => k2 z.2)]⟩
  rw [← rA_up (by decide) (by decide), ← rA_up (by decide) (by decide), ← rA_up (by decide) (by decide), ← rA_up (by decide) (by decide)] at k
  refine And.intro ⟨by decide, by decide⟩ (And.intro ⟨by decide, by decide⟩ ?_)
  refine And.intro ⟨by decide, by decide⟩ (And.intro ⟨by decide, by decide⟩ ?_)
  refine And.intro ⟨by decide, by decide⟩ (And.intro ⟨by decide, by decide⟩ (And.intro iq ?_))
  refine And.intro ⟨by decide, by decide⟩ (And.intro ⟨by decide, by decide⟩ (And.intro iq ?_))
  exact And.intro rfl k
end RDay
