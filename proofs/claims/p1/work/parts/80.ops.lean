/-! lost, blame, later: with the fresh plans, by which nothing is open -/
def zz : Nat → Int := fun _ => 0
theorem ab_z : ab3 zz := fun _ _ => ⟨Int.le_refl 0, (by decide : (0 : Int) ≤ 3)⟩
theorem g_22 {scX : Nat → Int} (hop : b32 (fun p q => p &&& q) (scX 0) 63 = 22) : Good scX := by
  obtain ⟨K, hK⟩ : ∃ K, cK 1 1 40 f0 f0 4 4 = K := ⟨_, rfl⟩
  obtain ⟨V, hV⟩ : ∃ V, cW 1 1 40 f0 f0 4 4 96 12 10 = V := ⟨_, rfl⟩
  obtain ⟨SU, hSU⟩ : ∃ V, cSU K 40 96 = V := ⟨_, rfl⟩
  obtain ⟨SL, hSL⟩ : ∃ V, cSL K 96 = V := ⟨_, rfl⟩
  obtain ⟨G0, hG0⟩ : ∃ V, sM 0 zz zz = V := ⟨_, rfl⟩
  obtain ⟨G1, hG1⟩ : ∃ V, sM 1 zz zz = V := ⟨_, rfl⟩
  have hR : ∀ pl, rV 1 1 40 (pB 3 pl) (nBw 3) 96 10 10 0 = V := fun pl => val_3.symm.trans hV
  refine gb_22 hop ?_
  rw [← cA_h0]
  refine ⟨⟨by decide, rfl⟩, rc_go [] 40 ?_⟩
  refine Exists.intro 244 (And.intro ⟨by decide, by decide⟩ (c_findTog (d := 26) rfl rfl ⟨by decide, by decide⟩ hK hV hSU hSL (fun nr fa fi1 ai1 al1 hn hf => ?_)))
  obtain ⟨⟨-, q2, -, -, -⟩, q3, -, q5, q6, q7, -⟩ := hf
  have e29 : ∀ k, ai1 29 k = 0 := fun k => congrFun (q5 29 (by decide) (by decide)) k
  have e36 : fi1 3 6 = 40 := congrFun (q3 3 (by decide) (by decide)) 6
  rw [← dF_cF]
  refine Exists.intro 244 (And.intro ⟨by decide, by decide⟩ (c_groundP (d := 26) (A := zz) (B := zz) (m := 0) (Or.inl rfl) ab_z ab_z (fun q _ => e29 q) (fun q _ => e29 _) e36 hG0 (fun fi2 ai2 hg2 => ?_)))
  obtain ⟨-, f2, a2, -⟩ := hg2
  have e29b : ∀ k, ai2 29 k = 0 := fun k => (congrFun (a2 29 (Or.inl (by decide))) k).trans (e29 k)
  have e36b : fi2 3 6 = 40 := (congrFun (f2 3 (by decide)) 6).trans e36
  refine Exists.intro 244 (And.intro ⟨by decide, by decide⟩ (c_groundP (d := 26) (A := zz) (B := zz) (m := 1) (Or.inr rfl) ab_z ab_z (fun q _ => e29b q) (fun q _ => e29b _) e36b hG1 (fun fi3 ai3 hg3 => ?_)))
  obtain ⟨-, f3, a3, -⟩ := hg3
  refine And.intro rfl ⟨V - G0 - G1, ?_, ?_⟩
  · rw [← q2]; rfl
  · have e : ∀ o, 50 < o → o < 234 → ai3 o = h0A o := fun o h1 h2 => (a3 o (Or.inr (by omega))).trans ((a2 o (Or.inr (by omega))).trans (q5 o h2 (by omega)))
    have h36 : fi3 54 36 = -1 := (congrFun (f3 54 (by decide)) 36).trans ((congrFun (f2 54 (by decide)) 36).trans (congrFun (q3 54 (by decide) (by decide)) 36))
    have eF : rF (dF (cF nr fa frB)) = dF (cF nr fa frB) := by rw [dF_cF]; exact rF_c
    rw [← eF, ← rA_h0 (e 58 (by decide) (by decide)) (e 60 (by decide) (by decide))]
    have hpl := r81_b (e 81 (by decide) (by decide))
    refine ⟨⟨by decide, rfl⟩, rc_go [] 40 ?_⟩
    refine Exists.intro 244 (And.intro ⟨by decide, by decide⟩ (c_togNow (d := 23) (pl := cA ai3 81) (hR _) hpl rfl (fun ai4 sb h1 h2 => ?_)))
    refine Exists.intro 244 (And.intro ⟨by decide, by decide⟩ (c_goes (d := 25) (A := zz) (B := zz) ab_z ab_z (fun q _ => ?_) (fun q _ => ?_) h36 (fun fi5 ai5 hD _ => ?_)))
    · rw [h1 80 (by decide) (by decide) (by decide)]
      exact congrFun (e 80 (by decide) (by decide)) q
    · rw [h1 81 (by decide) (by decide) (by decide)]
      exact congrFun (e 81 (by decide) (by decide)) q
    · obtain ⟨-, -, -, e4, e5⟩ := hD
      have g0 : ai5 114 0 = G0 := e4.trans hG0
      have g1 : ai5 115 0 = G1 := e5.trans hG1
      refine And.intro ⟨by decide, by decide⟩ (And.intro ⟨by decide, by decide⟩ ?_)
      refine And.intro ⟨by decide, by decide⟩ (And.intro ⟨by decide, by decide⟩ ?_)
      refine And.intro rfl ?_
      rw [← g0, ← g1]; rfl
section Fill4
variable {scL : Nat} {scX : Nat → Int} {d N : Nat} {fi : tF} {fr : tR} {al : tL} {P : ot}
def f4O (a0 A : tF) : Prop := (∀ o, o ≠ 42 → A o = a0 o) ∧ ∀ k, A 42 k = a0 42 k ∨ A 42 k = 0
theorem f4_l {a0 : tF} {fm to : Int} (ht : to ≤ 192) (hP : ∀ A, f4O a0 A → P (.inl none) fi fr (cA A) al) : ∀ (n : Nat) (i : Int) (A : tF), 0 ≤ i → i + n = to → f4O a0 A → Rc 1 (Call 1 scL scX d) (mt 218) P N scL scX 10 [some (.inr (.inl (some 42))), some (.inl fm), some (.inl to), some (.inl 0), some (.inl i)] [] N fi fr (cA A) al := by
  intro n
  induction n with
  | zero =>
    intro i A h0 hn hA
    refine rc_go [] 10 ?_
    exact And.intro ⟨rg_sm (by omega) (by omega), rg_sm (by omega) (by omega)⟩ (And.intro (fun _ => And.intro rfl (hP A hA)) (fun h => absurd (show to ≤ i by omega) h))
  | succ n ih =>
    intro i A h0 hn hA
    have key := ih (i + 1) (up2 A 42 i.toNat 0) (by omega) (by omega) ⟨fun o ho => by rw [up2_row ho]; exact hA.1 o ho, fun k => by
      rw [up2_if]
      split
      · exact Or.inr rfl
      · exact hA.2 k⟩
    rw [← cA_up rfl] at key
    refine rc_go [10] 20 ?_
    refine And.intro ⟨rg_sm (by omega) (by omega), rg_sm (by omega) (by omega)⟩ (And.intro (fun h => absurd (show to ≤ i from h) (by omega)) (fun _ => ?_))
    refine And.intro ⟨h0, by show i < 192; omega⟩ ?_
    exact key
theorem c_closeHour {m hour : Int} {ai : tF} (hm : m = 0 ∨ m = 1) (hh : 0 ≤ hour ∧ hour ≤ 23) (hP : ∀ A, f4O ai A → P (.inl none) fi (dF fr) (cA A) al) : Call 1 scL scX (d + 3) 2 [.inr (.inl (some 41)), .inl m, .inl hour] N fi (dF fr) (cA ai) al N P := by
  refine ⟨⟨Nat.le_refl _, rfl⟩, rc_go [] 30 ?_⟩
  refine Exists.intro N (And.intro ⟨Nat.le_refl _, Nat.le_refl _⟩ ?_)
  refine ⟨⟨Nat.le_refl _, rfl⟩, rc_go [10] 20 ?_⟩
  refine Exists.intro N (And.intro ⟨Nat.le_refl _, Nat.le_refl _⟩ ?_)
  refine ⟨⟨Nat.le_refl _, rfl⟩, rc_go [] 20 ?_⟩
  refine And.intro ⟨rg_sm (x := m * 96 + hour * 4) (by omega) (by omega), rg_sm (x := m * 96 + hour * 4 + 4) (by omega) (by omega)⟩ (And.intro (fun _ => ?_) (fun h => absurd (show m * 96 + hour * 4 ≤ m * 96 + hour * 4 + 4 by omega) h))
  refine And.intro ⟨rg_sm (x := m * 96 + hour * 4) (by omega) (by omega), ⟨by decide, by decide⟩⟩ (And.intro (fun _ => ?_) (fun h => absurd (show 0 ≤ m * 96 + hour * 4 by omega) h))
  refine And.intro ⟨rg_sm (x := m * 96 + hour * 4 + 4) (by omega) (by omega), show rg 192 from ⟨by decide, by decide⟩⟩ (And.intro (fun _ => ?_) (fun h => absurd (show m * 96 + hour * 4 + 4 ≤ 192 by omega) h))
  refine And.intro rfl ?_
  exact f4_l (a0 := ai) (fm := m * 96 + hour * 4) (to := m * 96 + hour * 4 + 4) (by omega) (fun A hA => And.intro rfl (hP A hA)) 4 (m * 96 + hour * 4) ai (by omega) (by omega) ⟨fun _ _ => rfl, fun _ => Or.inl rfl⟩
theorem c_mblame {m hour V : Int} {ai : tF} (hm : m = 0 ∨ m = 1) (hh : 0 ≤ hour ∧ hour ≤ 23) (h36 : fi 54 36 = -1) (h80 : ∀ q, ai 80 q = 0) (h81 : ∀ q, ai 81 q = 0) (hV : sM (1 - m) zz zz = V) (hP : ∀ fi' ai', fi' 54 0 = 0 → P (.inl (some (.inl (V - V)))) fi' (rF fr) (rA ai') al) :
    Call 1 scL scX (d + 7) 203 [.inr (.inl (some 54)), .inl m, .inl hour] N fi (rF fr) (rA ai) al N P := by
  refine ⟨⟨Nat.le_refl _, rfl⟩, rc_go [70] 60 ?_⟩
  refine Exists.intro N (And.intro ⟨Nat.le_refl _, Nat.le_refl _⟩ (c_isMill hm ?_))
  refine And.intro (fun _ => And.intro ⟨by decide, by decide⟩ (And.intro ⟨by decide, by decide⟩ ?_)) (fun h => absurd h (by decide))
  refine Exists.intro N (And.intro ⟨Nat.le_refl _, Nat.le_refl _⟩ (c_bad0 rfl ?_))
  refine And.intro (fun h => absurd rfl h) (fun _ => ?_)
  refine Exists.intro N (And.intro ⟨Nat.le_refl _, Nat.le_refl _⟩ (c_in1 (rg_sm (by omega) (by omega)) ⟨by decide, by decide⟩ ⟨by decide, by decide⟩ ⟨by omega, by omega⟩ ?_))
  refine And.intro (fun _ => And.intro ⟨by decide, by decide⟩ (And.intro ⟨by decide, by decide⟩ ?_)) (fun h => absurd h (by decide))
  refine Exists.intro N (And.intro ⟨Nat.le_refl _, Nat.le_refl _⟩ (c_bad0 rfl ?_))
  refine And.intro (fun _ => ?_) (fun h => absurd rfl h)
  refine Exists.intro N (And.intro ⟨Nat.le_refl _, Nat.le_refl _⟩ (c_groundBy (m := 1 - m) (A := zz) (B := zz) (by omega) ab_z ab_z (fun q _ => h80 q) (fun q _ => h81 q) (show (up2 fi 54 0 0) 54 36 = -1 from h36) hV (fun f1 a1 hf1 => ?_)))
  refine Exists.intro N (And.intro ⟨Nat.le_refl _, Nat.le_refl _⟩ (c_begins (fun f2 a2 hD2 hf2 => ?_)))
  have k80 : ∀ q, a2 80 q = 0 := fun q => by rw [hf2.1 80 (Or.inl (by decide)), hf1.1 80 (Or.inl (by decide))]; exact h80 q
  have k81 : ∀ q, a2 81 q = 0 := fun q => by rw [hf2.1 81 (Or.inl (by decide)), hf1.1 81 (Or.inl (by decide))]; exact h81 q
  have k36 : f2 54 36 = -1 := (hf2.2.2 36 (by decide) (by decide)).trans ((hf1.2.2 36 (by decide) (by decide)).trans h36)
  refine Exists.intro N (And.intro ⟨Nat.le_refl _, Nat.le_refl _⟩ (c_dayGoes (s := s0) (A := zz) (B := zz) (g := 0) (h := 0) s0_ok ab_z ab_z (by omega) hh (fun q _ => ?_) (fun q _ => ?_) k36 hD2 (fun f3 a3 hD3 hf3 => ?_)))
  · unfold bt
    rw [k80]
    exact ite_self _
  · unfold bt
    rw [k81]
    exact ite_self _
  · obtain ⟨-, -, -, e4, e5⟩ := hD3
    rw [Int.zero_add] at e4 e5
    have h0 : f3 54 0 = 0 := (hf3.2.2 0 (by decide) (by decide)).trans ((hf2.2.2 0 (by decide) (by decide)).trans (hf1.2.2 0 (by decide) (by decide)))
    have k := hP f3 a3 h0
    unfold sM at hV
    rcases hm with rfl | rfl
    · rw [if_neg (by decide)] at hV
      have e : a3 115 0 = V := e5.trans hV
      refine rc_go [] 20 ?_
      refine And.intro ⟨by decide, by decide⟩ (And.intro ⟨by decide, by decide⟩ ?_)
      have fin : P (.inl (some (.inl (a3 115 0 - V)))) f3 (rF fr) (rA a3) al := by rw [e]; exact k
      exact And.intro rfl fin
    · rw [if_pos (by decide)] at hV
      have e : a3 114 0 = V := e4.trans hV
      refine rc_go [] 20 ?_
      refine And.intro ⟨by decide, by decide⟩ (And.intro ⟨by decide, by decide⟩ ?_)
      have fin : P (.inl (some (.inl (a3 114 0 - V)))) f3 (rF fr) (rA a3) al := by rw [e]; exact k
      exact And.intro rfl fin
end Fill4
theorem g_34 {scX : Nat → Int} (hI : ∀ j, -2147483648 ≤ scX j ∧ scX j ≤ 2147483647) (hop : b32 (fun p q => p &&& q) (scX 0) 63 = 34) : Good scX := by
  by_cases c : (0 ≤ scX 1 ∧ scX 1 ≤ 1) ∧ (0 ≤ scX 2 ∧ scX 2 ≤ 23)
  · have hm : scX 1 = 0 ∨ scX 1 = 1 := by omega
    obtain ⟨V, hV⟩ : ∃ V, sM (1 - scX 1) zz zz = V := ⟨_, rfl⟩
    refine ga_34 hop ?_
    rw [← cA_h0, ← dF_frB]
    refine ⟨⟨by decide, rfl⟩, rc_go [] 60 ?_⟩
    refine Exists.intro 233 (And.intro ⟨by decide, by decide⟩ (c_needMill (d := 28) hm ?_))
    refine Exists.intro 233 (And.intro ⟨by decide, by decide⟩ (c_needR (d := 28) (rg_sm (by omega) (by omega)) ⟨by decide, by decide⟩ ⟨by decide, by decide⟩ c.2.1 c.2.2 ?_))
    refine Exists.intro 233 (And.intro ⟨by decide, by decide⟩ (c_groundP (d := 25) (A := zz) (B := zz) (m := 1 - scX 1) (by omega) ab_z ab_z (fun q _ => rfl) (fun q _ => rfl) rfl hV (fun fi2 ai2 hg2 => ?_)))
    obtain ⟨-, f2, a2, -⟩ := hg2
    have e29 : ∀ k, ai2 29 k = 0 := fun k => congrFun (a2 29 (Or.inl (by decide))) k
    have e36 : fi2 3 6 = 40 := congrFun (f2 3 (by decide)) 6
    refine Exists.intro 233 (And.intro ⟨by decide, by decide⟩ (c_openAs (d := 27) (fun k _ => by rw [e29]; decide) ?_))
    refine Exists.intro 233 (And.intro ⟨by decide, by decide⟩ (c_closeHour (d := 26) hm c.2 (fun A hA => ?_)))
    have o42 : ∀ k, k < 192 → A 42 k = 0 := fun k hk => by
      rcases hA.2 k with h | h
      · rw [h]
        unfold cpQ
        rw [if_pos ⟨rfl, hk⟩]
        exact e29 k
      · exact h
    refine Exists.intro 233 (And.intro ⟨by decide, by decide⟩ ?_)
    refine ⟨⟨by decide, rfl⟩, rc_go [] 30 ?_⟩
    refine Exists.intro 233 (And.intro ⟨by decide, by decide⟩ (c_start (d := 26) ?_))
    refine Exists.intro 233 (And.intro ⟨by decide, by decide⟩ (c_passAll (d := 26) (s := s0) (A := zz) (B := zz) s0_ok ab_z ab_z (fun q hq => o42 q (by omega)) (fun q hq => o42 (96 + q) (by omega)) (show (up2 (up2 (up2 fi2 48 0 10) 48 1 10) 48 2 0) 3 6 = 40 from e36) ⟨rfl, rfl, rfl⟩ (fun fi3 ai3 hD hf ha => ?_)))
    refine Exists.intro 233 (And.intro ⟨by decide, by decide⟩ (c_sumG (d := 27) (by omega) ha hV ?_))
    refine And.intro rfl (And.intro rfl ⟨V - V, rfl, ?_⟩)
    have e : ∀ o, 50 < o → o < 234 → ai3 o = h0A o := fun o h1 h2 => by
      rw [ha.1 o (Or.inr (by omega)), hA.1 o (by omega), cpQ_row (by omega)]
      exact a2 o (Or.inr (by omega))
    have h36 : fi3 54 36 = -1 := by
      rw [hf 54 (by decide), up2_row (by decide), up2_row (by decide), up2_row (by decide), f2 54 (by decide)]
      rfl
    have eF : rF (dF frB) = dF frB := by rw [dF_frB]; exact rF_id (fun _ => rfl)
    rw [← eF, ← rA_h0 (e 58 (by decide) (by decide)) (e 60 (by decide) (by decide))]
    refine c_mblame (d := 24) hm c.2 h36 (fun q => congrFun (e 80 (by decide) (by decide)) q) (fun q => congrFun (e 81 (by decide) (by decide)) q) hV (fun fi4 ai4 ht => ⟨rfl, ht, rfl⟩)
  · exact g_34_no hI hop c
