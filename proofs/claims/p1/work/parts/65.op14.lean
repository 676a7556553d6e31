/-! the reference's most; together on both sides -/
theorem cA_id {A : tF} (h4 : ∀ k, A 4 k = 20) (h5 : ∀ k, A 5 k = 5) (h6 : ∀ k, A 6 k = 1) (h7 : ∀ k, A 7 k = 10) (h14 : ∀ k, A 14 k = 2) (h15 : ∀ k, A 15 k = 3) : cA A = A := by
  funext o k
  unfold cA
  cases e4 : Nat.beq o 4
  · cases e5 : Nat.beq o 5
    · cases e6 : Nat.beq o 6
      · cases e7 : Nat.beq o 7
        · cases e14 : Nat.beq o 14
          · cases e15 : Nat.beq o 15
            · rfl
            · rw [Nat.eq_of_beq_eq_true e15]; exact (h15 k).symm
          · rw [Nat.eq_of_beq_eq_true e14]; exact (h14 k).symm
        · rw [Nat.eq_of_beq_eq_true e7]; exact (h7 k).symm
      · rw [Nat.eq_of_beq_eq_true e6]; exact (h6 k).symm
    · rw [Nat.eq_of_beq_eq_true e5]; exact (h5 k).symm
  · rw [Nat.eq_of_beq_eq_true e4]; exact (h4 k).symm
theorem rA_id {A : tF} (h58 : ∀ k, A 58 k = tvf k) (h60 : ∀ k, A 60 k = 2) : rA A = A := by
  funext o k
  unfold rA
  cases e4 : Nat.beq o 58
  · cases e5 : Nat.beq o 60
    · rfl
    · rw [Nat.eq_of_beq_eq_true e5]; exact (h60 k).symm
  · rw [Nat.eq_of_beq_eq_true e4]; exact (h58 k).symm
theorem rF_id {fr : tR} (h : ∀ k, fr 54 k = frB 54 k) : rF fr = fr := by
  funext o k
  unfold rF
  cases e4 : Nat.beq o 54
  · rfl
  · rw [Nat.eq_of_beq_eq_true e4]; exact (h k).symm
theorem cA_h0 : cA h0A = h0A := cA_id (fun _ => rfl) (fun _ => rfl) (fun _ => rfl) (fun _ => rfl) (fun _ => rfl) (fun _ => rfl)
section RefM
variable {scL : Nat} {scX : Nat → Int} {d N : Nat} {fi : tF} {fr : tR} {ai : tF} {al : tL} {P : ot} {who : Int} {pl : Nat → Int}
/-- lays with its number named -/
theorem c_laysN {a b mk V : Int} (e1 : fi 54 37 = a) (e2 : fi 54 38 = b) (e3 : fi 54 39 = mk) (hV : rV a b mk (pB who pl) (nBw who) 96 10 10 0 = V) (hA : 0 ≤ a ∧ a ≤ 9) (hB : 0 ≤ b ∧ b ≤ 9) (hmk : 0 ≤ mk ∧ mk ≤ 40) (hwho : who = 3 ∨ who = 1 ∨ who = 5) (hpl : ∀ k, 0 ≤ pl k ∧ pl k ≤ 3) (h81 : ai 81 = pl)
    (hP : ∀ ai' sb, (∀ o, o ≠ 126 → o ≠ 127 → o ≠ 128 → ai' o = ai o) → chK a b mk who pl ai' (-1) → P (.inl (some (.inl V))) (up2 fi 54 40 sb) (rF fr) (rA ai') al) :
    Call 1 scL scX (d + 5) 164 [.inr (.inl (some 54)), .inl who] N fi (rF fr) (rA ai) al N P := by
  subst e1
  subst e2
  subst e3
  subst hV
  exact c_laysC hA hB hmk hwho hpl h81 hP
theorem c_most {a b V : Int} (hV : rV a b 40 (pB who pl) (nBw who) 96 10 10 0 = V) (hA : 0 ≤ a ∧ a ≤ 9) (hB : 0 ≤ b ∧ b ≤ 9) (hwho : who = 3 ∨ who = 1 ∨ who = 5) (hpl : ∀ k, 0 ≤ pl k ∧ pl k ≤ 3) (h81 : ai 81 = pl)
    (hP : ∀ ai' sb, (∀ o, o ≠ 126 → o ≠ 127 → o ≠ 128 → ai' o = ai o) → chK a b 40 who pl ai' (-1) → P (.inl (some (.inl V))) (up2 (up2 (up2 (up2 fi 54 37 a) 54 38 b) 54 39 40) 54 40 sb) (rF fr) (rA ai') al) :
    Call 1 scL scX (d + 6) 169 [.inr (.inl (some 54)), .inl who, .inl a, .inl b] N fi (rF fr) (rA ai) al N P := by
  refine ⟨⟨Nat.le_refl _, rfl⟩, rc_go [] 30 ?_⟩
  refine And.intro ⟨by decide, by decide⟩ ?_
  refine Exists.intro N (And.intro ⟨Nat.le_refl _, Nat.le_refl _⟩ (c_laysN (a := a) (b := b) (mk := 40) (V := V) (pl := pl) rfl rfl rfl hV hA hB ⟨by decide, by decide⟩ hwho hpl h81 (fun ai' sb h1 h2 => ?_)))
  exact And.intro rfl (hP ai' sb h1 h2)
theorem c_togNow {V : Int} (hV : rV 1 1 40 (pB 3 pl) (nBw 3) 96 10 10 0 = V) (hpl : ∀ k, 0 ≤ pl k ∧ pl k ≤ 3) (h81 : ai 81 = pl)
    (hP : ∀ ai' sb, (∀ o, o ≠ 126 → o ≠ 127 → o ≠ 128 → ai' o = ai o) → chK 1 1 40 3 pl ai' (-1) → P (.inl (some (.inl V))) (up2 (up2 (up2 (up2 fi 54 37 1) 54 38 1) 54 39 40) 54 40 sb) (rF fr) (rA ai') al) :
    Call 1 scL scX (d + 7) 170 [.inr (.inl (some 54))] N fi (rF fr) (rA ai) al N P := by
  refine ⟨⟨Nat.le_refl _, rfl⟩, rc_go [] 12 ?_⟩
  refine Exists.intro N (And.intro ⟨Nat.le_refl _, Nat.le_refl _⟩ (c_most hV ⟨by decide, by decide⟩ ⟨by decide, by decide⟩ (Or.inl rfl) hpl h81 (fun ai' sb h1 h2 => ?_)))
  exact And.intro rfl (hP ai' sb h1 h2)
theorem c_mtog {V : Int} (hV : rV 1 1 40 (pB 3 pl) (nBw 3) 96 10 10 0 = V) (hpl : ∀ k, 0 ≤ pl k ∧ pl k ≤ 3) (h81 : ai 81 = pl)
    (hP : ∀ ai' sb, (∀ o, o ≠ 126 → o ≠ 127 → o ≠ 128 → ai' o = ai o) → chK 1 1 40 3 pl ai' (-1) → P (.inl (some (.inl V))) (up2 (up2 (up2 (up2 (up2 fi 54 0 0) 54 37 1) 54 38 1) 54 39 40) 54 40 sb) (rF fr) (rA ai') al) :
    Call 1 scL scX (d + 8) 171 [.inr (.inl (some 54))] N fi (rF fr) (rA ai) al N P := by
  refine ⟨⟨Nat.le_refl _, rfl⟩, rc_go [] 12 ?_⟩
  refine Exists.intro N (And.intro ⟨Nat.le_refl _, Nat.le_refl _⟩ (c_togNow hV hpl h81 (fun ai' sb h1 h2 => ?_)))
  exact And.intro rfl (hP ai' sb h1 h2)
end RefM
/-- with both free: the values of both are one -/
theorem val_3 {a b mk : Int} {pl : Nat → Int} : cW a b mk f0 f0 4 4 96 12 10 = rV a b mk (pB 3 pl) (nBw 3) 96 10 10 0 := by
  have e : pB 3 pl = f0 := by
    funext q
    rfl
  rw [e]
  have h := rV_cV (wA := a) (wB := b) (mk := mk) (fq := f0) (nB := 4) (fun q => ⟨Int.le_refl 0, Int.le_refl 4⟩) 96 10 10 0 ⟨by decide, by decide⟩ ⟨by decide, by decide⟩ ⟨by decide, by decide⟩
  have h2 := congrFun (congrFun (cW_cV (wU := a) (wL := b) (mk := mk) (fq := f0) (nB := 4) 96) 12) 10
  exact h2.trans h.symm
theorem g_14 {scX : Nat → Int} (hop : b32 (fun p q => p &&& q) (scX 0) 63 = 14) : Good scX := by
  obtain ⟨K, hK⟩ : ∃ K, cK 1 1 40 f0 f0 4 4 = K := ⟨_, rfl⟩
  obtain ⟨V, hV⟩ : ∃ V, cW 1 1 40 f0 f0 4 4 96 12 10 = V := ⟨_, rfl⟩
  obtain ⟨SU, hSU⟩ : ∃ V, cSU K 40 96 = V := ⟨_, rfl⟩
  obtain ⟨SL, hSL⟩ : ∃ V, cSL K 96 = V := ⟨_, rfl⟩
  have hR : rV 1 1 40 (pB 3 fun _ => 0) (nBw 3) 96 10 10 0 = V := val_3.symm.trans hV
  refine law_at (op := 14) (t := 1094) (Nf := 244) hop rfl (by decide) (by decide) (by decide) ?_
  refine rcl_go [2370] 20 ?_
  refine Exists.intro 244 (And.intro ⟨by decide, by decide⟩ ?_)
  rw [← cA_h0]
  refine c_together (d := 26) rfl rfl ⟨by decide, by decide⟩ hK hV hSU hSL (fun nr fa fi' ai' al' hn hf => ?_)
  refine Exists.intro 244 (And.intro ⟨by decide, by decide⟩ ?_)
  obtain ⟨-, -, -, h4, -, -, -⟩ := hf
  have r58 : ∀ k, cA ai' 58 k = tvf k := fun k => congrFun (h4 58 (by decide) (by decide)) k
  have r60 : ∀ k, cA ai' 60 k = 2 := fun k => congrFun (h4 60 (by decide) (by decide)) k
  have r81 : cA ai' 81 = fun _ => 0 := by
    funext k
    exact congrFun (h4 81 (by decide) (by decide)) k
  rw [← rF_id (fr := cF nr fa frB) (fun _ => rfl), ← rA_id r58 r60]
  refine c_mtog (d := 23) (pl := fun _ => 0) hR (fun _ => ⟨by decide, by decide⟩) r81 (fun ai2 sb h1 h2 => ?_)
  exact And.intro (fun _ => law_end) (fun h => absurd rfl h)
