/-! the reference's small methods with the fresh settings: told is cell 58, river cell 60 -/
def tvf (k : Nat) : Int := match k with
  | 0 => 20
  | 1 => 5
  | 2 => 1
  | 3 => 20
  | 4 => 5
  | 5 => 1
  | 6 => 10
  | 7 => 10
  | 8 => 40
  | 9 => 10
  | 11 => 23
  | 13 => 23
  | 14 => -1
  | 15 => -1
  | _ => 0
def rA (ai : tF) : tF := fun o k => bif Nat.beq o 58 then tvf k else bif Nat.beq o 60 then 2 else ai o k
def rF (fr : tR) : tR := fun o k => bif Nat.beq o 54 then frB 54 k else fr o k
theorem rA_up {ai : tF} {o k : Nat} {v : Int} (h1 : o ≠ 58) (h2 : o ≠ 60) : up2 (rA ai) o k v = rA (up2 ai o k v) := by
  funext i j
  unfold rA
  rw [up2_if, up2_if]
  by_cases h : i = o ∧ j = k
  · obtain ⟨rfl, rfl⟩ := h
    have e1 : Nat.beq i 58 = false := by
      cases e : Nat.beq i 58
      · rfl
      · exact absurd (Nat.eq_of_beq_eq_true e) h1
    have e2 : Nat.beq i 60 = false := by
      cases e : Nat.beq i 60
      · rfl
      · exact absurd (Nat.eq_of_beq_eq_true e) h2
    rw [if_pos ⟨rfl, rfl⟩, if_pos ⟨rfl, rfl⟩, e1, e2]; rfl
  · rw [if_neg h, if_neg h]
theorem td4 {q : Int} (h0 : 0 ≤ q) (h1 : q < 96) : inb (q.tdiv 4) 24 := by
  rw [Int.tdiv_eq_ediv_of_nonneg h0]
  exact ⟨by omega, by show q / 4 < 24; omega⟩
theorem rg_sm {x : Int} (h0 : -1000000 ≤ x) (h1 : x ≤ 1000000) : rg x := ⟨by omega, by omega⟩
section Ref2
variable {scL : Nat} {scX : Nat → Int} {d N : Nat} {fi : tF} {fr : tR} {ai : tF} {al : tL} {P : ot}
theorem c_isIce {q : Int} (hP : P (.inl (some (.inl 0))) fi (rF fr) (rA ai) al) : Call 1 scL scX (d + 1) 140 [.inr (.inl (some 54)), .inl q] N fi (rF fr) (rA ai) al N P := by
  refine ⟨⟨Nat.le_refl _, rfl⟩, rc_go [] 20 ?_⟩
  refine And.intro ⟨by decide, by decide⟩ ?_
  refine And.intro (fun _ => ?_) (fun h => absurd rfl h)
  exact And.intro (Or.inl rfl) (And.intro rfl hP)
theorem c_comes {q : Int} (h0 : 0 ≤ q) (h1 : q < 96) (hP : P (.inl (some (.inl 2))) fi (rF fr) (rA ai) al) : Call 1 scL scX (d + 2) 141 [.inr (.inl (some 54)), .inl q] N fi (rF fr) (rA ai) al N P := by
  refine ⟨⟨Nat.le_refl _, rfl⟩, rc_go [] 30 ?_⟩
  refine Exists.intro N (And.intro ⟨Nat.le_refl _, Nat.le_refl _⟩ (c_isIce ?_))
  refine And.intro (fun _ => ?_) (fun h => absurd rfl h)
  refine And.intro ⟨rg_sm (by omega) (by omega), ⟨by decide, by decide⟩, by decide⟩ ?_
  refine And.intro (td4 h0 h1) ?_
  exact And.intro rfl hP
theorem c_in1 {md : Nat} {v lo hi : Int} (rv : rg v) (rl : rg lo) (rh : rg hi) (h : lo ≤ v ∧ v ≤ hi) {fr : tR} {ai : tF} (hP : P (.inl (some (.inl 1))) fi fr ai al) : Call md scL scX (d + 1) 128 [.inl v, .inl lo, .inl hi] N fi fr ai al N P := c_in rv rl rh (by rw [if_pos h]; exact hP)
theorem c_mayOpen {m q : Int} (hm : m = 0 ∨ m = 1) (h0 : 0 ≤ q) (h1 : q < 96) (hP : P (.inl (some (.inl 1))) fi (rF fr) (rA ai) al) : Call 1 scL scX (d + 2) 144 [.inr (.inl (some 54)), .inl m, .inl q] N fi (rF fr) (rA ai) al N P := by
  have h4 := td4 h0 h1
  rcases hm with rfl | rfl
  · refine ⟨⟨Nat.le_refl _, rfl⟩, rc_go [] 50 ?_⟩
    refine Exists.intro N (And.intro ⟨Nat.le_refl _, Nat.le_refl _⟩ (c_isIce ?_))
    refine And.intro (fun h => absurd rfl h) (fun _ => ?_)
    refine And.intro ⟨rg_sm (by omega) (by omega), ⟨by decide, by decide⟩, by decide⟩ ?_
    refine And.intro ⟨by decide, by decide⟩ ?_
    refine And.intro ⟨by decide, by decide⟩ ?_
    refine Exists.intro N (And.intro ⟨Nat.le_refl _, Nat.le_refl _⟩ (c_in1 (rg_sm (by have := h4.1; omega) (by have := h4.2; omega)) (show rg 0 from ⟨by decide, by decide⟩) (show rg 23 from ⟨by decide, by decide⟩) ⟨h4.1, by have := h4.2; show q.tdiv 4 ≤ 23; omega⟩ ?_))
    refine And.intro (fun h => absurd h (by decide)) (fun _ => And.intro ⟨by decide, by decide⟩ (And.intro ⟨by decide, by decide⟩ ?_))
    exact And.intro (Or.inr rfl) (And.intro rfl hP)
  · refine ⟨⟨Nat.le_refl _, rfl⟩, rc_go [] 50 ?_⟩
    refine Exists.intro N (And.intro ⟨Nat.le_refl _, Nat.le_refl _⟩ (c_isIce ?_))
    refine And.intro (fun h => absurd rfl h) (fun _ => ?_)
    refine And.intro ⟨rg_sm (by omega) (by omega), ⟨by decide, by decide⟩, by decide⟩ ?_
    refine And.intro ⟨by decide, by decide⟩ ?_
    refine And.intro ⟨by decide, by decide⟩ ?_
    refine Exists.intro N (And.intro ⟨Nat.le_refl _, Nat.le_refl _⟩ (c_in1 (rg_sm (by have := h4.1; omega) (by have := h4.2; omega)) (show rg 0 from ⟨by decide, by decide⟩) (show rg 23 from ⟨by decide, by decide⟩) ⟨h4.1, by have := h4.2; show q.tdiv 4 ≤ 23; omega⟩ ?_))
    refine And.intro (fun h => absurd h (by decide)) (fun _ => And.intro ⟨by decide, by decide⟩ (And.intro ⟨by decide, by decide⟩ ?_))
    exact And.intro (Or.inr rfl) (And.intro rfl hP)
theorem c_openBy {m q : Int} (hm : m = 0 ∨ m = 1) (h0 : 0 ≤ q) (h1 : q < 96) (hP : P (.inl (some (.inl (ai (80 + m.toNat) q.toNat)))) fi (rF fr) (rA ai) al) : Call 1 scL scX (d + 3) 145 [.inr (.inl (some 54)), .inl m, .inl q] N fi (rF fr) (rA ai) al N P := by
  refine ⟨⟨Nat.le_refl _, rfl⟩, rc_go [] 30 ?_⟩
  refine Exists.intro N (And.intro ⟨Nat.le_refl _, Nat.le_refl _⟩ (c_mayOpen hm h0 h1 ?_))
  refine And.intro (fun h => absurd h (by decide)) (fun _ => And.intro ⟨by decide, by decide⟩ (And.intro ⟨by decide, by decide⟩ ?_))
  rcases hm with rfl | rfl
  · refine And.intro ⟨by decide, by decide⟩ ?_
    refine And.intro ⟨h0, h1⟩ ?_
    exact And.intro rfl hP
  · refine And.intro ⟨by decide, by decide⟩ ?_
    refine And.intro ⟨h0, h1⟩ ?_
    exact And.intro rfl hP
/-- what a quarter grinds, and the state behind it -/
def gX (u : Int) : Int := if u + 2 < 20 then u + 2 else 20
def gY (l w : Int) : Int := if l + w < 20 then l + w else 20
def gM (a x : Int) : Int := if a * 1 < x then a * 1 else x
def gB (mk y : Int) : Int := if y ≤ mk then 0 else y - mk
def gV (wA wB mk x y m n : Int) : Int := (if x - gB mk y < 5 then 0 else wA * m) + (if y < 5 then 0 else wB * n)
def gS (x y m n : Int) : Int := ((x - m) * 41 + (y - n)) * 13 + m
theorem gX_b {u : Int} (h : 0 ≤ u ∧ u ≤ 20) : 0 ≤ gX u ∧ gX u ≤ 20 := by unfold gX; split <;> omega
theorem gY_b {l w : Int} (h : 0 ≤ l ∧ l ≤ 20) (h2 : 0 ≤ w ∧ w ≤ 3) : 0 ≤ gY l w ∧ gY l w ≤ 20 := by unfold gY; split <;> omega
theorem gM_b {a x : Int} (h : 0 ≤ a ∧ a ≤ 3) (h2 : 0 ≤ x ∧ x ≤ 20) : 0 ≤ gM a x ∧ gM a x ≤ 3 ∧ gM a x ≤ x := by unfold gM; split <;> omega
set_option maxRecDepth 4096 in
theorem c_grinds {q u l w a b wA wB mk : Int} (h0 : 0 ≤ q) (h1 : q < 96) (hu : 0 ≤ u ∧ u ≤ 20) (hl : 0 ≤ l ∧ l ≤ 20) (hw : 0 ≤ w ∧ w ≤ 3) (ha : 0 ≤ a ∧ a ≤ 3) (hb : 0 ≤ b ∧ b ≤ 3) (hmk : 0 ≤ mk ∧ mk ≤ 40) (f37 : fi 54 37 = wA) (f38 : fi 54 38 = wB) (f39 : fi 54 39 = mk)
    (hP : P (.inl (some (.inl (gV wA wB mk (gX u) (gY l w) (gM a (gX u)) (gM b (gY l w)))))) (up2 fi 54 40 (gS (gX u) (gY l w) (gM a (gX u)) (gM b (gY l w)))) (rF fr) (rA ai) al) : Call 1 scL scX (d + 3) 163 [.inr (.inl (some 54)), .inl q, .inl u, .inl l, .inl w, .inl a, .inl b] N fi (rF fr) (rA ai) al N P := by
  subst f37
  subst f38
  subst f39
  have bx := gX_b hu
  have by' := gY_b hl hw
  have bm := gM_b ha bx
  have bn := gM_b hb by'
  refine ⟨⟨Nat.le_refl _, rfl⟩, rc_go [] 200 ?_⟩
  refine Exists.intro N (And.intro ⟨Nat.le_refl _, Nat.le_refl _⟩ (c_comes h0 h1 ?_))
  refine And.intro ⟨by decide, by decide⟩ ?_
  refine Exists.intro N (And.intro ⟨Nat.le_refl _, Nat.le_refl _⟩ (c_less (a := u + 2) (b := 20) (rg_sm (by omega) (by omega)) (rg_sm (by omega) (by omega)) ?_))
  refine And.intro ⟨by decide, by decide⟩ ?_
  refine Exists.intro N (And.intro ⟨Nat.le_refl _, Nat.le_refl _⟩ (c_less (a := l + w) (b := 20) (rg_sm (by omega) (by omega)) (rg_sm (by omega) (by omega)) ?_))
  refine And.intro ⟨by decide, by decide⟩ ?_
  refine Exists.intro N (And.intro ⟨Nat.le_refl _, Nat.le_refl _⟩ (c_less (a := a * 1) (b := gX u) (rg_sm (by omega) (by omega)) (rg_sm (by omega) (by omega)) ?_))
  refine And.intro ⟨by decide, by decide⟩ ?_
  refine Exists.intro N (And.intro ⟨Nat.le_refl _, Nat.le_refl _⟩ (c_less (a := b * 1) (b := gY l w) (rg_sm (by omega) (by omega)) (rg_sm (by omega) (by omega)) ?_))
  refine And.intro ⟨rg_sm (x := gY l w) (by omega) (by omega), rg_sm (x := fi 54 39) (by omega) (by omega)⟩ (And.intro (fun hk => ?_) (fun hk => ?_))
  · have hk : gY l w ≤ fi 54 39 := hk
    refine Exists.intro N (And.intro ⟨Nat.le_refl _, Nat.le_refl _⟩ (c_state (u := gX u - gM a (gX u)) (l := gY l w - gM b (gY l w)) (w := gM a (gX u)) ?_))
    refine And.intro ⟨by decide, by decide⟩ ?_
    refine And.intro ⟨rg_sm (x := gX u - 0) (by omega) (by omega), rg_sm (x := 5) (by omega) (by omega)⟩ (And.intro (fun h5 => ?_) (fun h5 => ?_))
    · have h5 : gX u - 0 < 5 := h5
      refine And.intro ⟨by decide, by decide⟩ ?_
      refine And.intro ⟨rg_sm (x := gY l w) (by omega) (by omega), rg_sm (x := 5) (by omega) (by omega)⟩ (And.intro (fun h6 => ?_) (fun h6 => ?_))
      · have h6 : gY l w < 5 := h6
        refine And.intro rfl ?_
        have e : gV (fi 54 37) (fi 54 38) (fi 54 39) (gX u) (gY l w) (gM a (gX u)) (gM b (gY l w)) = (0) + (0) := by
          unfold gV gB
          rw [if_pos hk, if_pos h5, if_pos h6]
        rw [e] at hP
        exact hP
      · have h6 : ¬ gY l w < 5 := h6
        refine And.intro rfl ?_
        have e : gV (fi 54 37) (fi 54 38) (fi 54 39) (gX u) (gY l w) (gM a (gX u)) (gM b (gY l w)) = (0) + (fi 54 38 * gM b (gY l w)) := by
          unfold gV gB
          rw [if_pos hk, if_pos h5, if_neg h6]
        rw [e] at hP
        exact hP
    · have h5 : ¬ gX u - 0 < 5 := h5
      refine And.intro ⟨by decide, by decide⟩ ?_
      refine And.intro ⟨rg_sm (x := gY l w) (by omega) (by omega), rg_sm (x := 5) (by omega) (by omega)⟩ (And.intro (fun h6 => ?_) (fun h6 => ?_))
      · have h6 : gY l w < 5 := h6
        refine And.intro rfl ?_
        have e : gV (fi 54 37) (fi 54 38) (fi 54 39) (gX u) (gY l w) (gM a (gX u)) (gM b (gY l w)) = (fi 54 37 * gM a (gX u)) + (0) := by
          unfold gV gB
          rw [if_pos hk, if_neg h5, if_pos h6]
        rw [e] at hP
        exact hP
      · have h6 : ¬ gY l w < 5 := h6
        refine And.intro rfl ?_
        have e : gV (fi 54 37) (fi 54 38) (fi 54 39) (gX u) (gY l w) (gM a (gX u)) (gM b (gY l w)) = (fi 54 37 * gM a (gX u)) + (fi 54 38 * gM b (gY l w)) := by
          unfold gV gB
          rw [if_pos hk, if_neg h5, if_neg h6]
        rw [e] at hP
        exact hP
  · have hk : ¬ gY l w ≤ fi 54 39 := hk
    refine Exists.intro N (And.intro ⟨Nat.le_refl _, Nat.le_refl _⟩ (c_state (u := gX u - gM a (gX u)) (l := gY l w - gM b (gY l w)) (w := gM a (gX u)) ?_))
    refine And.intro ⟨by decide, by decide⟩ ?_
    refine And.intro ⟨rg_sm (x := gX u - (gY l w - fi 54 39)) (by omega) (by omega), rg_sm (x := 5) (by omega) (by omega)⟩ (And.intro (fun h5 => ?_) (fun h5 => ?_))
    · have h5 : gX u - (gY l w - fi 54 39) < 5 := h5
      refine And.intro ⟨by decide, by decide⟩ ?_
      refine And.intro ⟨rg_sm (x := gY l w) (by omega) (by omega), rg_sm (x := 5) (by omega) (by omega)⟩ (And.intro (fun h6 => ?_) (fun h6 => ?_))
      · have h6 : gY l w < 5 := h6
        refine And.intro rfl ?_
        have e : gV (fi 54 37) (fi 54 38) (fi 54 39) (gX u) (gY l w) (gM a (gX u)) (gM b (gY l w)) = (0) + (0) := by
          unfold gV gB
          rw [if_neg hk, if_pos h5, if_pos h6]
        rw [e] at hP
        exact hP
      · have h6 : ¬ gY l w < 5 := h6
        refine And.intro rfl ?_
        have e : gV (fi 54 37) (fi 54 38) (fi 54 39) (gX u) (gY l w) (gM a (gX u)) (gM b (gY l w)) = (0) + (fi 54 38 * gM b (gY l w)) := by
          unfold gV gB
          rw [if_neg hk, if_pos h5, if_neg h6]
        rw [e] at hP
        exact hP
    · have h5 : ¬ gX u - (gY l w - fi 54 39) < 5 := h5
      refine And.intro ⟨by decide, by decide⟩ ?_
      refine And.intro ⟨rg_sm (x := gY l w) (by omega) (by omega), rg_sm (x := 5) (by omega) (by omega)⟩ (And.intro (fun h6 => ?_) (fun h6 => ?_))
      · have h6 : gY l w < 5 := h6
        refine And.intro rfl ?_
        have e : gV (fi 54 37) (fi 54 38) (fi 54 39) (gX u) (gY l w) (gM a (gX u)) (gM b (gY l w)) = (fi 54 37 * gM a (gX u)) + (0) := by
          unfold gV gB
          rw [if_neg hk, if_neg h5, if_pos h6]
        rw [e] at hP
        exact hP
      · have h6 : ¬ gY l w < 5 := h6
        refine And.intro rfl ?_
        have e : gV (fi 54 37) (fi 54 38) (fi 54 39) (gX u) (gY l w) (gM a (gX u)) (gM b (gY l w)) = (fi 54 37 * gM a (gX u)) + (fi 54 38 * gM b (gY l w)) := by
          unfold gV gB
          rw [if_neg hk, if_neg h5, if_neg h6]
        rw [e] at hP
        exact hP
end Ref2
