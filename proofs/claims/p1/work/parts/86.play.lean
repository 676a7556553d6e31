/-! play: both sides, and the law -/
/-- the reference between the turns of a play -/
def rP (p : Nat → Int) (t : Int) (r81 : Nat → Int) (fi ai : tF) : Prop := fi 54 36 = -1 ∧ fi 54 23 = t ∧ (∀ k, k < 96 → ai 80 k = p k) ∧ ai 81 = r81
def okRp (p r81 : Nat → Int) : Prop := (∀ k, 0 ≤ p k ∧ p k ≤ 3) ∧ (∀ k, k < 96 → r81 k = p (96 + k)) ∧ (∀ k, 0 ≤ r81 k ∧ r81 k ≤ 3)
theorem rP_ref {p r81 : Nat → Int} {t : Int} {fi ai f a : tF} (h : rP p t r81 fi ai) (hr : refO fi ai f a) : rP p t r81 f a :=
  ⟨(hr.2.1 36 (by decide)).trans h.1, (hr.2.1 23 (by decide)).trans h.2.1, fun k hk => by rw [hr.2.2 80 (Or.inl (by decide))]; exact h.2.2.1 k hk, (hr.2.2 81 (Or.inl (by decide))).trans h.2.2.2⟩
theorem rP_dfr {p r81 : Nat → Int} {t : Int} {fi ai f a : tF} (h : rP p t r81 fi ai) (hr : dfr fi ai f a) : rP p t r81 f a :=
  ⟨(hr.2.2 36 (by decide) (by decide)).trans h.1, (hr.2.2 23 (by decide) (by decide)).trans h.2.1, fun k hk => by rw [hr.1 80 (Or.inl (by decide))]; exact h.2.2.1 k hk, (hr.1 81 (Or.inl (by decide))).trans h.2.2.2⟩
/-- what replies needs lives through the day -/
theorem rq_dfr {m : Int} {p : Nat → Int} {f0' a0' f1 a1 f2 a2 : tF} (h : rqO m p f0' a0' f1 a1) (hd : dfr f1 a1 f2 a2) : rqO m p f2 a2 f2 a2 := by
  obtain ⟨h1, h2, h3⟩ := h
  refine ⟨⟨fun _ _ => rfl, fun _ _ => rfl, fun _ _ => rfl⟩, fun e => ?_, fun e => ?_⟩
  · obtain ⟨g1, g2⟩ := h2 e
    refine ⟨(hd.2.2 39 (by decide) (by decide)).trans g1, ?_⟩
    unfold chK at g2 ⊢
    rw [hd.1 128 (Or.inr (by decide)), hd.1 81 (Or.inl (by decide)), h1.2.2 81 (Or.inl (by decide))]
    exact g2
  · obtain ⟨g1, g2, g3⟩ := h3 e
    refine ⟨fun _ _ => rfl, fun k hk => ?_, fun q l q0 q1 l0 l1 => ?_⟩
    · rw [hd.1 129 (Or.inr (by decide))]
      exact g2 k hk
    · rw [hd.1 _ (Or.inr (by omega))]
      exact g3 q l q0 q1 l0 l1
section RPlay
variable {scL : Nat} {scX : Nat → Int} {d N : Nat} {fi : tF} {fr : tR} {ai : tF} {al : tL} {P : ot} {p r81 : Nat → Int}
def Lpl (noted : Int) (x2 x3 x4 : Option av) : List (Option av) := [some (.inr (.inl (some 54))), some (.inl noted), x2, x3, x4]
theorem pr_chk {t m noted Va Ga Vb Gb : Int} {x2 x3 x4 : Option av} (hm : m = 0 ∨ m = 1) (ht : t.tmod 2 = m) (htr : rg t) (ho : okRp p r81) (h : rP p t r81 fi ai) (hVa : vOne m 40 p = Va) (hVb : vOne (1 - m) 40 p = Vb) (hGa : sM m (oU p) (oL p) = Ga) (hGb : sM (1 - m) (oU p) (oL p) = Gb)
    (hret : Va ≤ Ga → Vb ≤ Gb → ∀ f a, P (.inl (some (.inl 1))) f (rF fr) (rA a) al)
    (hgo : ¬ (Va ≤ Ga ∧ Vb ≤ Gb) → ∀ f a (x3' : Int), rP p t r81 f a → rqO m p f a f a → Rc 1 (Call 1 scL scX (d + 7)) (mt 183) P N scL scX 61 (Lpl noted (some (.inl m)) (some (.inl x3')) x4) [] N f (rF fr) (rA a) al) :
    Rc 1 (Call 1 scL scX (d + 7)) (mt 183) P N scL scX 12 (Lpl noted x2 x3 x4) [] N fi (rF fr) (rA ai) al := by
  obtain ⟨hp, hL, hb81⟩ := ho
  obtain ⟨hA, hB⟩ := ab_p hp
  have hm' : 1 - m = 0 ∨ 1 - m = 1 := by omega
  have bVa := vOne_b (mk := 40) hm hp
  have bVb := vOne_b (mk := 40) hm' hp
  have bGa := sM_b (m := m) hA hB
  have bGb := sM_b (m := 1 - m) hA hB
  rw [hVa] at bVa
  rw [hVb] at bVb
  rw [hGa] at bGa
  rw [hGb] at bGb
  have r81e : ∀ {f a : tF}, rP p t r81 f a → ∀ k, k < 96 → a 81 k = p (96 + k) := fun hh k hk => by rw [hh.2.2.2]; exact hL k hk
  have r81b : ∀ {f a : tF}, rP p t r81 f a → ∀ k, 0 ≤ a 81 k ∧ a 81 k ≤ 3 := fun hh k => by rw [hh.2.2.2]; exact hb81 k
  have second : ∀ (f a : tF) (x3' : Int), (x3' = 0 ∨ x3' = 1) → (x3' = 1 ↔ Vb ≤ Gb) → rP p t r81 f a → Rc 1 (Call 1 scL scX (d + 7)) (mt 183) P N scL scX 42 (Lpl noted (some (.inl m)) (some (.inl x3')) x4) [] N f (rF fr) (rA a) al := by
    intro f a x3' hx hiff hh
    refine rc_go [61] 40 ?_
    refine Exists.intro N (And.intro ⟨Nat.le_refl _, Nat.le_refl _⟩ (c_replyOf hm hp hh.2.2.1 (r81e hh) (r81b hh) hVa (fun f1 a1 hr => ?_)))
    have h1 := rP_ref hh hr.1
    refine Exists.intro N (And.intro ⟨Nat.le_refl _, Nat.le_refl _⟩ (c_groundBy (d := d + 1) (A := oU p) (B := oL p) hm hA hB (fun q hq => h1.2.2.1 q hq) (fun q hq => r81e h1 q hq) h1.1 hGa (fun f2 a2 hd => ?_)))
    have h2 := rP_dfr h1 hd
    have hq := rq_dfr hr hd
    refine And.intro ⟨rg_sm (by omega) (by omega), rg_sm (by omega) (by omega)⟩ (And.intro (fun hgt => ?_) (fun hng => ?_))
    · have hgt : Ga < Va := hgt
      exact hgo (fun z => by omega) f2 a2 _ h2 hq
    · have hng : ¬ Ga < Va := hng
      refine And.intro (fun e => ?_) (fun ne => And.intro (rg_sm (by omega) (by omega)) (And.intro ⟨by decide, by decide⟩ ?_))
      · have e : x3' = 0 := e
        exact hgo (fun z => by have := hiff.mpr z.2; omega) f2 a2 _ h2 hq
      · have ne : x3' ≠ 0 := ne
        exact And.intro rfl (hret (by omega) (hiff.mp (by omega)) f2 a2)
  have first : Rc 1 (Call 1 scL scX (d + 7)) (mt 183) P N scL scX 19 (Lpl noted (some (.inl m)) x3 x4) [] N fi (rF fr) (rA ai) al := by
    refine rc_go [42] 40 ?_
    refine Exists.intro N (And.intro ⟨Nat.le_refl _, Nat.le_refl _⟩ (c_replyOf hm' hp h.2.2.1 (r81e h) (r81b h) hVb (fun f1 a1 hr => ?_)))
    have h1 := rP_ref h hr.1
    refine Exists.intro N (And.intro ⟨Nat.le_refl _, Nat.le_refl _⟩ (c_groundBy (d := d + 1) (A := oU p) (B := oL p) hm' hA hB (fun q hq => h1.2.2.1 q hq) (fun q hq => r81e h1 q hq) h1.1 hGb (fun f2 a2 hd => ?_)))
    have h2 := rP_dfr h1 hd
    refine And.intro ⟨rg_sm (by omega) (by omega), rg_sm (by omega) (by omega)⟩ (And.intro (fun hgt => ?_) (fun hng => ?_))
    · have hgt : Gb < Vb := hgt
      exact second f2 a2 0 (Or.inl rfl) ⟨fun e => absurd e (by decide), fun z => by omega⟩ h2
    · have hng : ¬ Gb < Vb := hng
      exact second f2 a2 1 (Or.inr rfl) ⟨fun _ => by omega, fun _ => rfl⟩ h2
  rw [← ht, ← h.2.1] at first
  refine rc_go [19] 12 ?_
  refine And.intro ⟨show rg (fi 54 23) by rw [h.2.1]; exact htr, ⟨by decide, by decide⟩, by decide⟩ ?_
  exact first
/-- notes: one row of before is written -/
theorem nt_l {a0 : tF} (hP : ∀ A, (∀ o, o ≠ 100 → A o = a0 o) → P (.inl none) fi (rF fr) (rA A) al) : ∀ (n q : Nat) (A : tF) (x3 : Option av), q + n = 96 → (∀ o, o ≠ 100 → A o = a0 o) → Rc 1 (Call 1 scL scX d) (mt 181) P N scL scX 2 [some (.inr (.inl (some 54))), some (.inr (.inl (some 100))), some (.inl (q : Int)), x3] [] N fi (rF fr) (rA A) al := by
  intro n
  induction n with
  | zero =>
    intro q A x3 hn hA
    have e : q = 96 := by omega
    subst e
    refine rc_go [] 10 ?_
    exact And.intro ⟨⟨by decide, by decide⟩, ⟨by decide, by decide⟩⟩ (And.intro (fun _ => And.intro rfl (hP A hA)) (fun h => absurd (by decide : (96 : Int) ≤ 96) h))
  | succ n ih =>
    intro q A x3 hn hA
    have iq : inb (q : Int) 96 := ⟨by omega, by show (q : Int) < 96; omega⟩
    have r2 : rg 2 := ⟨by decide, by decide⟩
    have key := ih (q + 1) (up2 (up2 A 100 (2 * (q : Int) + 0).toNat (A 80 q)) 100 (2 * (q : Int) + (0 + 1)).toNat (A 81 q)) (some (.inl (0 + 1 + 1))) (by omega) (fun o ho => by rw [up2_row ho, up2_row ho]; exact hA o ho)
    rw [← rA_up (by decide) (by decide), ← rA_up (by decide) (by decide)] at key
    refine rc_go [2] 80 ?_
    refine And.intro ⟨rg_sm (by omega) (by omega), ⟨by decide, by decide⟩⟩ (And.intro (fun h => absurd (show (96 : Int) ≤ (q : Int) from h) (by omega)) (fun _ => ?_))
    refine And.intro ⟨⟨by decide, by decide⟩, r2⟩ (And.intro (fun h => absurd (show (2 : Int) ≤ 0 from h) (by decide)) (fun _ => ?_))
    refine And.intro ⟨by decide, by decide⟩ (And.intro iq (And.intro ⟨by show 0 ≤ 2 * (q : Int) + 0; omega, by show 2 * (q : Int) + 0 < 192; omega⟩ ?_))
    refine And.intro ⟨⟨by decide, by decide⟩, r2⟩ (And.intro (fun h => absurd (show (2 : Int) ≤ 0 + 1 from h) (by decide)) (fun _ => ?_))
    refine And.intro ⟨by decide, by decide⟩ (And.intro iq (And.intro ⟨by show 0 ≤ 2 * (q : Int) + (0 + 1); omega, by show 2 * (q : Int) + (0 + 1) < 192; omega⟩ ?_))
    refine And.intro ⟨⟨by decide, by decide⟩, r2⟩ (And.intro (fun _ => ?_) (fun h => absurd (show (2 : Int) ≤ 0 + 1 + 1 by decide) h))
    exact key
theorem c_notes (hP : ∀ A, (∀ o, o ≠ 100 → A o = ai o) → P (.inl none) fi (rF fr) (rA A) al) : Call 1 scL scX (d + 1) 181 [.inr (.inl (some 54)), .inr (.inl (some 100))] N fi (rF fr) (rA ai) al N P := by
  refine ⟨⟨Nat.le_refl _, rfl⟩, rc_go [2] 10 ?_⟩
  exact nt_l hP 96 0 ai none (by decide) (fun _ _ => rfl)
/-- behind a turn of the upper's -/
theorem rP_n0 {f1 a1 f2 a2 : tF} (ho : okRp zz r81) (h : rP zz 0 r81 f1 a1) (h81 : r81 = fun _ => 0) (hs : rsO 0 zz r81 f1 a1 f2 a2) : rP (nxP 0 zz) 0 r81 f2 a2 := by
  obtain ⟨s1, s2, s3, s4, -⟩ := hs
  obtain ⟨e81, e80⟩ := s4 rfl
  refine ⟨(s2 36 (by decide)).trans h.1, (s2 23 (by decide)).trans h.2.1, fun k hk => ?_, e81.trans h.2.2.2⟩
  rw [e80 k hk]
  subst h81
  have w := (walk_eq (wA := 1) (wB := 0) (mk := 40) (fq := f0) (nB := 1) (fun q => ⟨Int.le_refl 0, (by decide : (0 : Int) + 1 ≤ 4)⟩) k hk).2.2
  have w2 : rPk (rK 1 0 40 (pB 1 fun _ => 0) (nBw 1)) k = cPk (kOne 0 40 zz) k := w
  rw [w2]
  unfold nxP
  rw [if_pos rfl, if_pos hk]
/-- behind a turn of the lower's -/
theorem rP_n1 {f1 a1 f2 a2 : tF} {t : Int} (ho : okRp p r81) (h : rP p t r81 f1 a1) (hs : rsO 1 p r81 f1 a1 f2 a2) : rP (nxP 1 p) t (a2 81) f2 a2 ∧ okRp (nxP 1 p) (a2 81) := by
  obtain ⟨hp, hL, hb⟩ := ho
  obtain ⟨s1, s2, s3, -, s5⟩ := hs
  obtain ⟨e80, e81, f81⟩ := s5 rfl
  have hT := uT_b hp
  refine ⟨⟨(s2 36 (by decide)).trans h.1, (s2 23 (by decide)).trans h.2.1, fun k hk => ?_, rfl⟩, nxP_b (Or.inr rfl) hp, fun k hk => ?_, fun k => ?_⟩
  · rw [e80]
    unfold nxP
    rw [if_neg (by decide), if_pos hk]
    exact h.2.2.1 k hk
  · rw [f81 k hk]
    unfold nxP
    rw [if_neg (by decide), if_neg (by omega), if_pos (by omega), Nat.add_sub_cancel_left]
    have w := (low_walk (mk := 40) hp k hk).2.2
    have w2 : cPk (kOne 1 40 p) k = 4 * p k + LK (uT p) (95 - k) (lS (uT p) k) := w
    have b := LK_b hT (n := 95 - k) (lS_b hT k)
    rw [w2]
    omega
  · by_cases hk : k < 96
    · rw [f81 k hk]
      exact LK_b hT (lS_b hT k)
    · rw [e81 k (by omega), h.2.2.2]
      exact hb k
theorem c_mplay (h80 : ∀ k, ai 80 k = 0) (h81 : ai 81 = fun _ => 0) (h36 : fi 54 36 = -1) (hP : ∀ fi' ai', P (.inl (some (.inl 1))) fi' (rF fr) (rA ai') al) : Call 1 scL scX (d + 8) 183 [.inr (.inl (some 54))] N fi (rF fr) (rA ai) al N P := by
  have z3 : ∀ k, 0 ≤ zz k ∧ zz k ≤ 3 := p0_b
  have ok0 : okRp zz (fun _ => 0) := ⟨z3, fun _ _ => rfl, p0_b⟩
  have b1 := nxP_b (p := zz) (m := 0) (Or.inl rfl) z3
  have ok1 : okRp (nxP 0 zz) (fun _ => 0) := ⟨b1, fun k hk => by unfold nxP; rw [if_pos rfl, if_neg (by omega)]; rfl, p0_b⟩
  have b2 := nxP_b (p := nxP 0 zz) (m := 1) (Or.inr rfl) b1
  obtain ⟨hA1, hB1⟩ := ab_p b1
  obtain ⟨hA2, hB2⟩ := ab_p b2
  obtain ⟨Va, hVa⟩ : ∃ V, vOne 0 40 zz = V := ⟨_, rfl⟩
  obtain ⟨Vb, hVb⟩ : ∃ V, vOne (1 - 0) 40 zz = V := ⟨_, rfl⟩
  obtain ⟨Gb, hGb⟩ : ∃ V, sM (1 - 0) (oU zz) (oL zz) = V := ⟨_, rfl⟩
  obtain ⟨Va1, hVa1⟩ : ∃ V, vOne 1 40 (nxP 0 zz) = V := ⟨_, rfl⟩
  obtain ⟨Vb1, hVb1⟩ : ∃ V, vOne (1 - 1) 40 (nxP 0 zz) = V := ⟨_, rfl⟩
  obtain ⟨Gb1, hGb1⟩ : ∃ V, sM (1 - 1) (oU (nxP 0 zz)) (oL (nxP 0 zz)) = V := ⟨_, rfl⟩
  obtain ⟨Va2, hVa2⟩ : ∃ V, vOne 0 40 (nxP 1 (nxP 0 zz)) = V := ⟨_, rfl⟩
  obtain ⟨Vb2, hVb2⟩ : ∃ V, vOne (1 - 0) 40 (nxP 1 (nxP 0 zz)) = V := ⟨_, rfl⟩
  have pos0 := vOne_pos (m := 0) (p := zz) (Or.inl rfl) z3
  have pos1 := vOne_pos (m := 1) (p := nxP 0 zz) (Or.inr rfl) b1
  rw [hVa] at pos0
  rw [hVa1] at pos1
  have g0 : sM 0 (oU zz) (oL zz) = 0 := by
    unfold sM
    rw [if_pos rfl]
    exact sA_0 s0_ok (fun _ _ => rfl) (ab_p z3).2 96 (Nat.le_refl _)
  have g1 : sM 1 (oU (nxP 0 zz)) (oL (nxP 0 zz)) = 0 := by
    unfold sM
    rw [if_neg (by decide)]
    exact sB_0 s0_ok hA1 (fun q _ => by show nxP 0 zz (96 + q) = 0; unfold nxP; rw [if_pos rfl, if_neg (by omega)]; rfl) 96 (Nat.le_refl _)
  have e10 : (1 : Int) - 0 = 1 := rfl
  have key0 := pr_chk (scL := scL) (scX := scX) (d := d) (N := N) (fr := fr) (al := al) (P := P) (p := zz) (r81 := fun _ => 0) (t := 0) (m := 0) (noted := 0) (fi := up2 (up2 fi 54 0 0) 54 23 0) (ai := ai) (x2 := none) (x3 := none) (x4 := none) (Or.inl rfl) rfl ⟨by decide, by decide⟩ ok0 ⟨h36, rfl, fun k _ => h80 k, h81⟩ hVa hVb g0 hGb (fun hle => by omega) (fun _ f a x3' hh hq => by
    refine rc_go [12] 60 ?_
    refine And.intro (fun h => absurd rfl h) (fun _ => ?_)
    refine And.intro ⟨⟨by decide, by decide⟩, ⟨by decide, by decide⟩⟩ (And.intro (fun _ => ?_) (fun h => absurd (show (0 : Int) ≤ 0 by decide) h))
    refine And.intro (fun _ => And.intro (show rg (f 54 23) by rw [hh.2.1]; exact ⟨by decide, by decide⟩) (And.intro ⟨by decide, by decide⟩ ?_)) (fun h => absurd (show f 54 23 = 24 from h) (by rw [hh.2.1]; decide))
    refine And.intro ⟨by decide, by decide⟩ ?_
    refine Exists.intro N (And.intro ⟨Nat.le_refl _, Nat.le_refl _⟩ (c_notes (fun A hA => ?_)))
    have hqA : rqO 0 zz f A f A := by
      obtain ⟨g1, g2⟩ := hq.2.1 rfl
      refine ⟨⟨fun _ _ => rfl, fun _ _ => rfl, fun _ _ => rfl⟩, fun _ => ⟨g1, ?_⟩, fun e => absurd e (by decide)⟩
      unfold chK at g2 ⊢
      rw [hA 128 (by decide), hA 81 (by decide)]
      exact g2
    have hhA : rP zz 0 (fun _ => 0) f A := ⟨hh.1, hh.2.1, fun k hk => by rw [hA 80 (by decide)]; exact hh.2.2.1 k hk, (hA 81 (by decide)).trans hh.2.2.2⟩
    refine Exists.intro N (And.intro ⟨Nat.le_refl _, Nat.le_refl _⟩ (c_replies (d := d + 2) (m := 0) (p := zz) (pl := fun _ => 0) (Or.inl rfl) z3 p0_b hhA.2.2.2 hqA (fun f1 a1 hs => ?_)))
    have n1 := rP_n0 ok0 hhA rfl hs
    have key1 := pr_chk (scL := scL) (scX := scX) (d := d) (N := N) (fr := fr) (al := al) (P := P) (p := nxP 0 zz) (r81 := fun _ => 0) (t := 1) (m := 1) (noted := 0 + 1) (fi := up2 f1 54 23 (f1 54 23 + 1)) (ai := a1) (x2 := some (.inl 0)) (x3 := some (.inl x3')) (x4 := some (.inl 0)) (Or.inr rfl) rfl ⟨by decide, by decide⟩ ok1 ⟨n1.1, show f1 54 23 + 1 = 1 by rw [n1.2.1]; rfl, n1.2.2.1, n1.2.2.2⟩ hVa1 hVb1 g1 hGb1 (fun hle => by omega) (fun _ f a x3'' hh hq => by
      refine rc_go [12] 60 ?_
      refine And.intro (fun _ => And.intro ⟨by decide, by decide⟩ (And.intro ⟨by decide, by decide⟩ ?_)) (fun h => absurd h (by decide))
      refine Exists.intro N (And.intro ⟨Nat.le_refl _, Nat.le_refl _⟩ (c_replies (d := d + 2) (m := 1) (p := nxP 0 zz) (pl := fun _ => 0) (Or.inr rfl) b1 p0_b hh.2.2.2 hq (fun f2 a2 hs => ?_)))
      obtain ⟨n2, ok2⟩ := rP_n1 ok1 hh hs
      have eq0 : Va2 = sM 0 (oU (nxP 1 (nxP 0 zz))) (oL (nxP 1 (nxP 0 zz))) := by
        rw [← hVa2, vOne_up b2 z3, vOne_day (Or.inl rfl) z3]
        unfold sM
        rw [if_pos rfl, if_pos rfl]
        rw [sA_up (B' := oL (nxP 1 (nxP 0 zz)))]
        refine (sA_cg (fun q hq => ?_) (fun _ _ => rfl) 96 (Nat.le_refl _)).1
        show cPk (kOne 0 40 zz) q / 4 = nxP 1 (nxP 0 zz) q
        unfold nxP
        rw [if_neg (by decide), if_pos hq, if_pos rfl, if_pos hq]
      have eq1 : Vb2 = sM (1 - 0) (oU (nxP 1 (nxP 0 zz))) (oL (nxP 1 (nxP 0 zz))) := by
        rw [← hVb2, e10]
        rw [vOne_lo b2 b1 (fun q hq => by show nxP 1 (nxP 0 zz) q = nxP 0 zz q; rw [nxP, if_neg (by decide), if_pos hq]), vOne_day (Or.inr rfl) b1]
        refine sM_cg (fun q hq => ?_) (fun q hq => ?_)
        · show cPk (kOne 1 40 (nxP 0 zz)) q / 4 = nxP 1 (nxP 0 zz) q
          have w : cPk (kOne 1 40 (nxP 0 zz)) q = 4 * nxP 0 zz q + LK (uT (nxP 0 zz)) (95 - q) (lS (uT (nxP 0 zz)) q) := (low_walk (mk := 40) b1 q hq).2.2
          have b := LK_b (uT_b b1) (n := 95 - q) (lS_b (uT_b b1) q)
          have en : nxP 1 (nxP 0 zz) q = nxP 0 zz q := by rw [nxP, if_neg (by decide), if_pos hq]
          rw [w, en]
          omega
        · show cPk (kOne 1 40 (nxP 0 zz)) q % 4 = nxP 1 (nxP 0 zz) (96 + q)
          rw [nxP, if_neg (by decide), if_neg (by omega), if_pos (by omega), Nat.add_sub_cancel_left]
      exact pr_chk (scL := scL) (scX := scX) (d := d) (N := N) (fr := fr) (al := al) (P := P) (p := nxP 1 (nxP 0 zz)) (r81 := a2 81) (t := 2) (m := 0) (noted := 0 + 1) (fi := up2 f2 54 23 (f2 54 23 + 1)) (ai := a2) (x2 := some (.inl 1)) (x3 := some (.inl x3'')) (x4 := some (.inl 0)) (Or.inl rfl) rfl ⟨by decide, by decide⟩ ok2 ⟨n2.1, show f2 54 23 + 1 = 2 by rw [n2.2.1]; rfl, n2.2.2.1, rfl⟩ hVa2 hVb2 eq0.symm eq1.symm (fun _ _ f a => hP f a) (fun hn => absurd ⟨Int.le_refl _, Int.le_refl _⟩ hn))
    exact key1)
  refine ⟨⟨Nat.le_refl _, rfl⟩, rc_go [12] 12 ?_⟩
  exact key0
end RPlay
