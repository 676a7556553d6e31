/-! alone, would, hand, share, marked: both sides, and the law -/
section Need
variable {scL : Nat} {scX : Nat → Int} {d N : Nat} {fi : tF} {fr : tR} {ai : tF} {al : tL} {P : ot}
theorem c_needMill {m : Int} (hm : m = 0 ∨ m = 1) (hP : P (.inl none) fi fr ai al) : Call 1 scL scX (d + 1) 107 [.inr (.inl (some 0)), .inl m] N fi fr ai al N P := by
  refine ⟨⟨Nat.le_refl _, rfl⟩, rc_go [] 12 ?_⟩
  refine And.intro ⟨rg_sm (by omega) (by omega), ⟨by decide, by decide⟩⟩ (And.intro (fun h => absurd (show m < 0 from h) (by omega)) (fun _ => ?_))
  refine And.intro ⟨rg_sm (by omega) (by omega), ⟨by decide, by decide⟩⟩ (And.intro (fun _ => ?_) (fun h => absurd (show m ≤ 1 by omega) h))
  exact And.intro rfl hP
theorem c_needQ {q : Int} (hq : 0 ≤ q ∧ q < 96) (hP : P (.inl none) fi fr ai al) : Call 1 scL scX (d + 1) 108 [.inr (.inl (some 0)), .inl q] N fi fr ai al N P := by
  refine ⟨⟨Nat.le_refl _, rfl⟩, rc_go [] 12 ?_⟩
  refine And.intro ⟨rg_sm (by omega) (by omega), ⟨by decide, by decide⟩⟩ (And.intro (fun h => absurd (show q < 0 from h) (by omega)) (fun _ => ?_))
  refine And.intro ⟨rg_sm (by omega) (by omega), ⟨by decide, by decide⟩⟩ (And.intro (fun _ => ?_) (fun h => absurd (show q < 96 by omega) h))
  exact And.intro rfl hP
theorem c_needR {n lo hi : Int} (r1 : rg n) (r2 : rg lo) (r3 : rg hi) (h1 : lo ≤ n) (h2 : n ≤ hi) (hP : P (.inl none) fi fr ai al) : Call 1 scL scX (d + 1) 109 [.inr (.inl (some 0)), .inl n, .inl lo, .inl hi] N fi fr ai al N P := by
  refine ⟨⟨Nat.le_refl _, rfl⟩, rc_go [] 12 ?_⟩
  refine And.intro ⟨r1, r2⟩ (And.intro (fun h => absurd (show n < lo from h) (by omega)) (fun _ => ?_))
  refine And.intro ⟨r1, r3⟩ (And.intro (fun _ => ?_) (fun h => absurd h2 h))
  exact And.intro rfl hP
theorem c_isMill {m : Int} (hm : m = 0 ∨ m = 1) (hP : P (.inl (some (.inl 1))) fi fr ai al) : Call 1 scL scX (d + 2) 136 [.inl m] N fi fr ai al N P := by
  refine ⟨⟨Nat.le_refl _, rfl⟩, rc_go [] 12 ?_⟩
  refine Exists.intro N (And.intro ⟨Nat.le_refl _, Nat.le_refl _⟩ (c_in1 (rg_sm (by omega) (by omega)) ⟨by decide, by decide⟩ ⟨by decide, by decide⟩ ⟨by omega, by omega⟩ ?_))
  exact And.intro (Or.inr rfl) (And.intro rfl hP)
theorem c_isQuarter {q : Int} (hq : 0 ≤ q ∧ q < 96) (hP : P (.inl (some (.inl 1))) fi fr ai al) : Call 1 scL scX (d + 2) 137 [.inl q] N fi fr ai al N P := by
  refine ⟨⟨Nat.le_refl _, rfl⟩, rc_go [] 12 ?_⟩
  refine Exists.intro N (And.intro ⟨Nat.le_refl _, Nat.le_refl _⟩ (c_in1 (rg_sm (by omega) (by omega)) ⟨by decide, by decide⟩ ⟨by decide, by decide⟩ ⟨by omega, by omega⟩ ?_))
  exact And.intro (Or.inr rfl) (And.intro rfl hP)
theorem c_bad0 {w r : Int} (h0 : fi 54 0 = 0) (hP : P (.inl (some (.inl 0))) fi fr ai al) : Call 1 scL scX (d + 1) 127 [.inr (.inl (some 54)), .inl 0, .inl w, .inl r] N fi fr ai al N P := by
  refine ⟨⟨Nat.le_refl _, rfl⟩, rc_go [] 20 ?_⟩
  refine And.intro (fun _ => ?_) (fun h => absurd rfl h)
  refine And.intro (fun _ => ?_) (fun h => absurd h0 h)
  exact And.intro (Or.inl rfl) (And.intro rfl hP)
end Need
theorem rV_fq {wA wB mk : Int} {f g : Int → Int} {nB : Nat} (h : ∀ q, 0 ≤ q → q < 96 → f q = g q) : ∀ n, n ≤ 96 → rV wA wB mk f nB n = rV wA wB mk g nB n
  | 0, _ => rfl
  | n + 1, hn => by
    funext u l w
    unfold rV
    rw [rV_fq h n (by omega), h (95 - n) (by omega) (by omega)]
/-- the upper mill alone free: the class's value is the reference's -/
theorem val_1 {mk : Int} {p pl : Nat → Int} (hp : ∀ k, 0 ≤ p k ∧ p k ≤ 3) (h : ∀ k, k < 96 → pl k = p (96 + k)) : vOne 0 mk p = rV 1 0 mk (pB 1 pl) (nBw 1) 96 10 10 0 := by
  have e1 : vOne 0 mk p = cW 1 0 mk f0 (oB 0 p) 4 1 96 12 10 := rfl
  have e2 : rV 1 0 mk (pB 1 pl) (nBw 1) 96 = rV 1 0 mk (oB 0 p) 1 96 := rV_fq (fun q h0 h1 => by
    show pl q.toNat = p (96 + q).toNat
    rw [h _ (by omega)]
    congr 1
    omega) 96 (by decide)
  have h3 := rV_cV (wA := 1) (wB := 0) (mk := mk) (fq := oB 0 p) (nB := 1) (fun q => by
    have := hp (96 + q).toNat
    show 0 ≤ p (96 + q).toNat ∧ p (96 + q).toNat + 1 ≤ 4
    omega) 96 10 10 0 ⟨by decide, by decide⟩ ⟨by decide, by decide⟩ ⟨by decide, by decide⟩
  have h4 := congrFun (congrFun (cW_cV (wU := 1) (wL := 0) (mk := mk) (fq := oB 0 p) (nB := 1) 96) 12) 10
  rw [e1, e2, h3]
  exact h4
theorem val_5 {mk : Int} {pl : Nat → Int} : vOne 0 mk (fun _ => 0) = rV 1 0 mk (pB 5 pl) (nBw 5) 96 10 10 0 := by
  have e : pB 5 pl = pB 1 (fun _ => 0) := by
    funext q
    rfl
  rw [e]
  exact val_1 (fun _ => ⟨by decide, by decide⟩) (fun _ _ => rfl)
theorem val_L {mk : Int} {p : Nat → Int} (hp : ∀ k, 0 ≤ p k ∧ p k ≤ 3) : vOne 1 mk p = LV (uT p) 96 10 := by
  have e1 : vOne 1 mk p = cW 0 1 mk (oA 1 p) (oB 1 p) 1 4 96 12 10 := rfl
  rw [e1]
  exact low_val hp
theorem vOne_b {m mk : Int} {p : Nat → Int} (hm : m = 0 ∨ m = 1) (hp : ∀ k, 0 ≤ p k ∧ p k ≤ 3) : 0 ≤ vOne m mk p ∧ vOne m mk p ≤ 5184 := by
  obtain ⟨hA, hB⟩ := opn_A hm hp
  obtain ⟨hU, hL⟩ := m_w hm
  have h := cW_b (mk := mk) hA hB hU hL 96 12 10 (by decide) ⟨by decide, by decide⟩ ⟨by decide, by decide⟩
  exact ⟨h.1, h.2⟩
/-- what a call of the reference leaves as it was -/
def refO (fi ai fi' ai' : tF) : Prop := (∀ o, o ≠ 54 → fi' o = fi o) ∧ (∀ k, k < 37 → fi' 54 k = fi 54 k) ∧ (∀ o, o < 112 ∨ 229 ≤ o → ai' o = ai o)
theorem refO_tr {a b a' b' a'' b'' : tF} (h : refO a b a' b') (h2 : refO a' b' a'' b'') : refO a b a'' b'' :=
  ⟨fun o ho => (h2.1 o ho).trans (h.1 o ho), fun k hk => (h2.2.1 k hk).trans (h.2.1 k hk), fun o ho => (h2.2.2 o ho).trans (h.2.2 o ho)⟩
theorem up4_f {f : tF} {a b c e : Int} : (∀ o, o ≠ 54 → up2 (up2 (up2 (up2 f 54 37 a) 54 38 b) 54 39 c) 54 40 e o = f o) ∧ (∀ k, k < 37 → up2 (up2 (up2 (up2 f 54 37 a) 54 38 b) 54 39 c) 54 40 e 54 k = f 54 k) := by
  refine ⟨fun o ho => ?_, fun k hk => ?_⟩
  · simp only [up2_row ho]
  · rw [up2_if, up2_if, up2_if, up2_if, if_neg (by omega), if_neg (by omega), if_neg (by omega), if_neg (by omega)]
section RefA
variable {scL : Nat} {scX : Nat → Int} {d N : Nat} {fi : tF} {fr : tR} {ai : tF} {al : tL} {P : ot} {m V : Int} {p : Nat → Int}
theorem c_aloneOf (hm : m = 0 ∨ m = 1) (hpl : ∀ k, 0 ≤ ai 81 k ∧ ai 81 k ≤ 3) (hV : vOne m 40 (fun _ => 0) = V) (hP : ∀ fi' ai', refO fi ai fi' ai' → P (.inl (some (.inl V))) fi' (rF fr) (rA ai') al) :
    Call 1 scL scX (d + 7) 174 [.inr (.inl (some 54)), .inl m] N fi (rF fr) (rA ai) al N P := by
  rcases hm with rfl | rfl
  · refine ⟨⟨Nat.le_refl _, rfl⟩, rc_go [] 20 ?_⟩
    refine And.intro (fun h => absurd rfl h) (fun _ => ?_)
    refine Exists.intro N (And.intro ⟨Nat.le_refl _, Nat.le_refl _⟩ (c_most (pl := ai 81) (val_5.symm.trans hV) ⟨by decide, by decide⟩ ⟨by decide, by decide⟩ (Or.inr (Or.inr rfl)) hpl rfl (fun ai' sb h1 h2 => ?_)))
    exact And.intro rfl (hP _ _ ⟨up4_f.1, up4_f.2, fun o ho => h1 o (by omega) (by omega) (by omega)⟩)
  · refine ⟨⟨Nat.le_refl _, rfl⟩, rc_go [] 20 ?_⟩
    refine And.intro (fun _ => And.intro ⟨by decide, by decide⟩ (And.intro ⟨by decide, by decide⟩ ?_)) (fun h => absurd h (by decide))
    have hL := (val_L (mk := 40) (p := fun _ => 0) (fun _ => ⟨by decide, by decide⟩)).symm.trans hV
    refine Exists.intro N (And.intro ⟨Nat.le_refl _, Nat.le_refl _⟩ (c_laysLower (d := d + 2) (p := fun _ => 0) (fun _ => ⟨by decide, by decide⟩) (Or.inl ⟨rfl, fun _ _ => rfl⟩) (fun A hA => ?_)))
    rw [hL]
    exact And.intro rfl (hP _ _ ⟨fun _ _ => rfl, fun _ _ => rfl, fun o ho => hA.1 o (by omega)⟩)
/-- what replyOf leaves: also what the walk behind it needs -/
def rqO (m : Int) (p : Nat → Int) (fi ai fi' ai' : tF) : Prop := refO fi ai fi' ai' ∧ (m = 0 → (fi' 54 39 = 40 ∧ chK 1 0 40 1 (ai 81) ai' (-1))) ∧ (m = 1 → llO (uT p) ai ai')
theorem c_replyOf (hm : m = 0 ∨ m = 1) (hp : ∀ k, 0 ≤ p k ∧ p k ≤ 3) (h80 : ∀ k, k < 96 → ai 80 k = p k) (h81 : ∀ k, k < 96 → ai 81 k = p (96 + k)) (hpl : ∀ k, 0 ≤ ai 81 k ∧ ai 81 k ≤ 3) (hV : vOne m 40 p = V) (hP : ∀ fi' ai', rqO m p fi ai fi' ai' → P (.inl (some (.inl V))) fi' (rF fr) (rA ai') al) :
    Call 1 scL scX (d + 7) 176 [.inr (.inl (some 54)), .inl m] N fi (rF fr) (rA ai) al N P := by
  rcases hm with rfl | rfl
  · refine ⟨⟨Nat.le_refl _, rfl⟩, rc_go [] 20 ?_⟩
    refine And.intro (fun h => absurd rfl h) (fun _ => ?_)
    refine Exists.intro N (And.intro ⟨Nat.le_refl _, Nat.le_refl _⟩ (c_most (pl := ai 81) ((val_1 hp h81).symm.trans hV) ⟨by decide, by decide⟩ ⟨by decide, by decide⟩ (Or.inr (Or.inl rfl)) hpl rfl (fun ai' sb h1 h2 => ?_)))
    exact And.intro rfl (hP _ _ ⟨⟨up4_f.1, up4_f.2, fun o ho => h1 o (by omega) (by omega) (by omega)⟩, fun _ => ⟨rfl, h2⟩, fun h => absurd h (by decide)⟩)
  · refine ⟨⟨Nat.le_refl _, rfl⟩, rc_go [] 20 ?_⟩
    refine And.intro (fun _ => And.intro ⟨by decide, by decide⟩ (And.intro ⟨by decide, by decide⟩ ?_)) (fun h => absurd h (by decide))
    have hL := (val_L (mk := 40) hp).symm.trans hV
    refine Exists.intro N (And.intro ⟨Nat.le_refl _, Nat.le_refl _⟩ (c_laysLower (d := d + 2) (p := p) hp (Or.inr ⟨rfl, h80⟩) (fun A hA => ?_)))
    rw [hL]
    exact And.intro rfl (hP _ _ ⟨⟨fun _ _ => rfl, fun _ _ => rfl, fun o ho => hA.1 o (by omega)⟩, fun h => absurd h (by decide), fun _ => hA⟩)
/-- thrown is 0 at a call's start -/
theorem up0_f {f : tF} : (∀ o, o ≠ 54 → up2 f 54 0 0 o = f o) := fun o ho => up2_row ho
theorem c_malone (hm : m = 0 ∨ m = 1) (hpl : ∀ k, 0 ≤ ai 81 k ∧ ai 81 k ≤ 3) (hV : vOne m 40 (fun _ => 0) = V) (hP : ∀ fi' ai', fi' 54 0 = 0 → P (.inl (some (.inl V))) fi' (rF fr) (rA ai') al) :
    Call 1 scL scX (d + 8) 175 [.inr (.inl (some 54)), .inl m] N fi (rF fr) (rA ai) al N P := by
  refine ⟨⟨Nat.le_refl _, rfl⟩, rc_go [] 40 ?_⟩
  refine Exists.intro N (And.intro ⟨Nat.le_refl _, Nat.le_refl _⟩ (c_isMill hm ?_))
  refine And.intro (fun _ => And.intro ⟨by decide, by decide⟩ (And.intro ⟨by decide, by decide⟩ ?_)) (fun h => absurd h (by decide))
  refine Exists.intro N (And.intro ⟨Nat.le_refl _, Nat.le_refl _⟩ (c_bad0 rfl ?_))
  refine And.intro (fun _ => ?_) (fun h => absurd rfl h)
  refine Exists.intro N (And.intro ⟨Nat.le_refl _, Nat.le_refl _⟩ (c_aloneOf hm hpl hV (fun fi' ai' hr => ?_)))
  exact And.intro rfl (hP fi' ai' (hr.2.1 0 (by decide)))
theorem c_mwould (hm : m = 0 ∨ m = 1) (hp : ∀ k, 0 ≤ p k ∧ p k ≤ 3) (h80 : ∀ k, k < 96 → ai 80 k = p k) (h81 : ∀ k, k < 96 → ai 81 k = p (96 + k)) (hpl : ∀ k, 0 ≤ ai 81 k ∧ ai 81 k ≤ 3) (hV : vOne m 40 p = V) (hP : ∀ fi' ai', fi' 54 0 = 0 → P (.inl (some (.inl V))) fi' (rF fr) (rA ai') al) :
    Call 1 scL scX (d + 8) 179 [.inr (.inl (some 54)), .inl m] N fi (rF fr) (rA ai) al N P := by
  refine ⟨⟨Nat.le_refl _, rfl⟩, rc_go [] 40 ?_⟩
  refine Exists.intro N (And.intro ⟨Nat.le_refl _, Nat.le_refl _⟩ (c_isMill hm ?_))
  refine And.intro (fun _ => And.intro ⟨by decide, by decide⟩ (And.intro ⟨by decide, by decide⟩ ?_)) (fun h => absurd h (by decide))
  refine Exists.intro N (And.intro ⟨Nat.le_refl _, Nat.le_refl _⟩ (c_bad0 rfl ?_))
  refine And.intro (fun _ => ?_) (fun h => absurd rfl h)
  refine Exists.intro N (And.intro ⟨Nat.le_refl _, Nat.le_refl _⟩ (c_replyOf hm hp h80 h81 hpl hV (fun fi' ai' hr => ?_)))
  exact And.intro rfl (hP fi' ai' (hr.1.2.1 0 (by decide)))
end RefA
/-- rows below the solver's that a class's call leaves are the fresh ones, where it says so -/
theorem rA_h0 {ai' : tF} (h58 : ai' 58 = h0A 58) (h60 : ai' 60 = h0A 60) : rA (cA ai') = cA ai' := rA_id (fun k => congrFun h58 k) (fun k => congrFun h60 k)
theorem rF_c {nr fa : Nat} : rF (cF nr fa frB) = cF nr fa frB := rF_id (fun _ => rfl)
theorem p0_b : ∀ k : Nat, (0 : Int) ≤ (fun _ : Nat => (0 : Int)) k ∧ (fun _ : Nat => (0 : Int)) k ≤ 3 := fun _ => ⟨Int.le_refl 0, (by decide : (0 : Int) ≤ 3)⟩
theorem plO_h {a : tF} (h : a 29 = h0A 29) : plO (some 29) a (fun _ => 0) := ⟨p0_b, Or.inr ⟨rfl, fun k _ => congrFun h k⟩⟩
theorem r81_b {ai' : tF} (h : ai' 81 = h0A 81) : ∀ k, 0 ≤ cA ai' 81 k ∧ cA ai' 81 k ≤ 3 := fun k => by
  have e : cA ai' 81 k = 0 := congrFun h k
  rw [e]
  decide
theorem g_17 {scX : Nat → Int} (hI : ∀ j, -2147483648 ≤ scX j ∧ scX j ≤ 2147483647) (hop : b32 (fun p q => p &&& q) (scX 0) 63 = 17) : Good scX := by
  by_cases c : 0 ≤ scX 1 ∧ scX 1 ≤ 1
  · have hm : scX 1 = 0 ∨ scX 1 = 1 := by omega
    obtain ⟨V, hV⟩ : ∃ V, vOne (scX 1) 40 (fun _ => 0) = V := ⟨_, rfl⟩
    refine ga_17 hop ?_
    rw [← cA_h0]
    refine ⟨⟨by decide, rfl⟩, rc_go [] 20 ?_⟩
    refine Exists.intro 233 (And.intro ⟨by decide, by decide⟩ (c_needMill (d := 28) hm ?_))
    refine Exists.intro 244 (And.intro ⟨by decide, by decide⟩ (c_mostAlone0 (d := 25) hm (by rcases hm with h | h <;> rw [h] <;> rfl) rfl ⟨by decide, by decide⟩ hV (fun nr fa fi' ai' al' hn hr => ?_)))
    refine And.intro rfl ⟨V, rfl, ?_⟩
    obtain ⟨-, h2, -, -, -, -⟩ := hr
    rw [← rF_c, ← rA_h0 (h2 58 (by decide) (by decide)) (h2 60 (by decide) (by decide))]
    exact c_malone (d := 23) hm (r81_b (h2 81 (by decide) (by decide))) hV (fun fi2 ai2 ht => ⟨rfl, ht, rfl⟩)
  · exact g_17_no hI hop c
theorem g_19 {scX : Nat → Int} (hI : ∀ j, -2147483648 ≤ scX j ∧ scX j ≤ 2147483647) (hop : b32 (fun p q => p &&& q) (scX 0) 63 = 19) : Good scX := by
  by_cases c : 0 ≤ scX 1 ∧ scX 1 ≤ 1
  · have hm : scX 1 = 0 ∨ scX 1 = 1 := by omega
    obtain ⟨V, hV⟩ : ∃ V, vOne (scX 1) 40 (fun _ => 0) = V := ⟨_, rfl⟩
    refine ga_19 hop ?_
    rw [← cA_h0]
    refine ⟨⟨by decide, rfl⟩, rc_go [] 20 ?_⟩
    refine Exists.intro 233 (And.intro ⟨by decide, by decide⟩ (c_needMill (d := 28) hm ?_))
    refine Exists.intro 244 (And.intro ⟨by decide, by decide⟩ (c_mbr0 (d := 25) hm (plO_h rfl) rfl ⟨by decide, by decide⟩ hV (fun nr fa fi' ai' al' hn hr => ?_)))
    refine And.intro rfl ⟨V, rfl, ?_⟩
    obtain ⟨-, -, -, h2, -, -, -, -, -, -⟩ := hr
    rw [← rF_c, ← rA_h0 (h2 58 (by decide)) (h2 60 (by decide))]
    exact c_mwould (d := 23) (p := fun _ => 0) hm p0_b (fun k _ => congrFun (h2 80 (by decide)) k) (fun k _ => congrFun (h2 81 (by decide)) k) (r81_b (h2 81 (by decide))) hV (fun fi2 ai2 ht => ⟨rfl, ht, rfl⟩)
  · exact g_19_no hI hop c
