/-! soonest: the class's firstQuarterWith -/
def sP (F : Nat → Int → Prop) (inch V : Int) : Prop := (∃ q : Nat, q < 96 ∧ V = (q : Int) ∧ (∃ mo, F (q + 1) mo ∧ inch ≤ mo) ∧ ∀ k, k < q → ∃ mo, F (k + 1) mo ∧ mo < inch) ∨ (V = -1 ∧ ∀ k, k < 96 → ∃ mo, F (k + 1) mo ∧ mo < inch)
theorem sP_eq {F G : Nat → Int → Prop} {i V W : Int} (h : ∀ n a b, F n a → G n b → a = b) (h1 : sP F i V) (h2 : sP G i W) : V = W := by
  rcases h1 with ⟨q, q1, q2, ⟨mo, q3, q4⟩, q5⟩ | ⟨q2, q5⟩
  · rcases h2 with ⟨p, p1, p2, ⟨mp, p3, p4⟩, p5⟩ | ⟨p2, p5⟩
    · rcases Nat.lt_trichotomy q p with c | c | c
      · obtain ⟨z, z1, z2⟩ := p5 q c
        have := h _ _ _ q3 z1
        omega
      · rw [q2, p2, c]
      · obtain ⟨z, z1, z2⟩ := q5 p c
        have := h _ _ _ z1 p3
        omega
    · obtain ⟨z, z1, z2⟩ := p5 q q1
      have := h _ _ _ q3 z1
      omega
  · rcases h2 with ⟨p, p1, p2, ⟨mp, p3, p4⟩, p5⟩ | ⟨p2, p5⟩
    · obtain ⟨z, z1, z2⟩ := q5 p p1
      have := h _ _ _ z1 p3
      omega
    · rw [q2, p2]
theorem row_m {m : Int} (hm : m = 0 ∨ m = 1) {A : tF} (hF : rowF (oA m (fun _ => 0)) (oB m (fun _ => 0)) (nA1 m) (nB1 m) A) {k : Nat} (hk : k < 96) : (A 237 k = 0 ∧ A 238 k = aU m 3) ∧ A 237 (96 + k) = 0 ∧ A 238 (96 + k) = aL m 3 := by
  obtain ⟨r1, r2, r3, r4⟩ := hF (k : Int) (by omega) (by omega)
  have t1 : ((k : Int)).toNat = k := rfl
  have t2 : (96 + (k : Int)).toNat = 96 + k := rfl
  rw [t1] at r1 r2
  rw [t2] at r3 r4
  rcases hm with rfl | rfl
  · exact ⟨⟨r1, r2⟩, r3, r4⟩
  · exact ⟨⟨r1, r2⟩, r3, r4⟩
theorem rowR_m {m : Int} (hm : m = 0 ∨ m = 1) {A : tF} (hF : rowF (oA m (fun _ => 0)) (oB m (fun _ => 0)) (nA1 m) (nB1 m) A) : rowR A := by
  intro k hk
  have b1 := au_b (m := m) (a := 3) (by decide)
  have b2 := al_b (m := m) (a := 3) (by decide)
  by_cases c : k < 96
  · have := row_m hm hF c; omega
  · have := row_m hm hF (k := k - 96) (by omega)
    have e : 96 + (k - 96) = k := by omega
    rw [e] at this
    omega
/-- every state lies in its quarter's box -/
theorem rr_bx {m : Int} (hm : m = 0 ∨ m = 1) {a0 A : tF} (hK : bK a0 A 95) (hF : rowF (oA m (fun _ => 0)) (oB m (fun _ => 0)) (nA1 m) (nB1 m) A) : ∀ (n : Nat), n < 96 → ∀ {u l w g : Int}, rr m n u l w g → inBx A (n : Int) (gX u) (gY l w)
  | 0, _, u, l, w, g, h => by
    obtain ⟨rfl, rfl, rfl, rfl⟩ := h
    obtain ⟨-, ⟨c1, c2, c3, c4⟩, -, -⟩ := hK
    refine ⟨by decide, by decide, fun _ => ?_⟩
    have t1 : (((0 : Nat) : Int)).toNat = 0 := rfl
    rw [t1, c1, c2, c3, c4]
    decide
  | n + 1, hn, u', l', w', g', h => by
    obtain ⟨u, l, w, g, a, h, ha, rfl, rfl, rfl, rfl⟩ := h
    have ih := rr_bx hm hK hF n (by omega) h
    have r := row_m hm hF (k := n) (by omega)
    have b1 := au_b (m := m) ha
    have b2 := al_b (m := m) ha
    have l1 : aU m a ≤ aU m 3 := by unfold aU; split <;> omega
    have l2 : aL m a ≤ aL m 3 := by unfold aL; split <;> omega
    have t1 : ((n : Int)).toNat = n := rfl
    have t2 : (96 + (n : Int)).toNat = 96 + n := rfl
    have k := bx_suc hK (q := (n : Int)) (i := aU m a) (j := aL m a) (by omega) (by omega) ih b1.1 (by rw [t1]; omega) (by rw [t1]; omega) b2.1 (by rw [t2]; omega) (by rw [t2]; omega)
    have e1 : gC 20 (gX u - gM (aU m a) (gX u) + cmB (n : Int)) = gX (gX u - gM (aU m a) (gX u)) := by
      unfold cmB
      rw [if_pos (by omega)]
      generalize gX u - gM (aU m a) (gX u) = z
      unfold gC gX
      by_cases h : z + 2 < 20
      · rw [if_pos h, if_neg (by omega)]
      · rw [if_neg h]
        by_cases h2 : 20 < z + 2
        · rw [if_pos h2]
        · rw [if_neg h2]; omega
    rw [e1] at k
    exact k
def Zb (U L : Int) : Int → Int → Int → Int → Prop := fun u l w _ => gX u < U ∨ (gX u = U ∧ gY l w < L)
theorem dK_Z {m : Int} {key : Int → Int → Int → Nat} {n t : Nat} {g : Int} {Z Z' : Int → Int → Int → Int → Prop} (hZ : ∀ u l w g b, rr m n u l w g → Z u l w b → Z' u l w b) (h : dK m key n Z t g) : dK m key n Z' t g := by
  obtain ⟨u, l, w, g0, b, h1, h2, h3, h4⟩ := h
  exact ⟨u, l, w, g0, b, h1, h2, hZ u l w g0 b h1 h3, h4⟩
section FirstQ
variable {scL : Nat} {scX : Nat → Int} {d : Nat} {fi : tF} {fr : tR} {al : tL} {P : ot} {nr fa : Nat} {m inch : Int} {n : Nat} {A a0 : tF}
def LfQ (inch q : Int) (x3 x4 x5 : Option av) : List (Option av) := [some (.inr (.inl (some 233))), some (.inl inch), some (.inl q), x3, x4, x5]
def fqH (m : Int) (A fi : tF) : Prop := fi 233 13 = 21 ∧ fi 233 10 = 40 ∧ fi 233 11 = 1 - m ∧ fi 233 12 = m ∧ rowF (oA m (fun _ => 0)) (oB m (fun _ => 0)) (nA1 m) (nB1 m) A
/-- rows besides near and far -/
def rws (A a : tF) : Prop := ∀ o, o ≠ 234 → o ≠ 235 → a o = A o
theorem nfo_ne {o : Nat} (hnf : nfo nr fa) (h1 : o ≠ 234) (h2 : o ≠ 235) : o ≠ fa ∧ o ≠ nr := by rcases hnf with ⟨rfl, rfl⟩ | ⟨rfl, rfl⟩ <;> exact ⟨by assumption, by assumption⟩
theorem nfo_nf (hnf : nfo nr fa) : nr ≠ fa := by rcases hnf with ⟨rfl, rfl⟩ | ⟨rfl, rfl⟩ <;> decide
theorem fq_l (hnf : nfo nr fa) (hn : n < 96) (hm : m = 0 ∨ m = 1) (hH : fqH m A fi) (hbx : 0 ≤ A 241 n ∧ A 242 n ≤ 20) {U : Int} (hU : 0 ≤ U ∧ U ≤ 20)
    (hk : ∀ a mo x5, rws A a → FB 1681 (tK m (kc n) n) (tK m (kc n) n) (a nr) → FB 1681 (tK m (kc (n + 1)) (n + 1)) (dK m (kc (n + 1)) n (Zb U (A 242 n + 1))) (a fa) → Fm (tK m (kc (n + 1)) (n + 1)) (dK m (kc (n + 1)) n (Zb U (A 242 n + 1))) mo → Rc 1 (Call 1 scL scX (d + 2)) (mt 50) P 244 scL scX 60 (LfQ inch n (some (.inl mo)) (some (.inl (U + 1))) x5) [] 244 fi (cF nr fa fr) (cA a) al) :
    ∀ (k : Nat) (L : Int) (a : tF) (mo : Int), L + k = A 242 n + 1 → 0 ≤ L → rws A a → FB 1681 (tK m (kc n) n) (tK m (kc n) n) (a nr) → FB 1681 (tK m (kc (n + 1)) (n + 1)) (dK m (kc (n + 1)) n (Zb U L)) (a fa) → Fm (tK m (kc (n + 1)) (n + 1)) (dK m (kc (n + 1)) n (Zb U L)) mo → Rc 1 (Call 1 scL scX (d + 2)) (mt 50) P 244 scL scX 79 (LfQ inch n (some (.inl mo)) (some (.inl U)) (some (.inl L))) [] 244 fi (cF nr fa fr) (cA a) al := by
  have i1 : inb (n : Int) 96 := ⟨by omega, by show (n : Int) < 96; omega⟩
  intro k
  induction k with
  | zero =>
    intro L a mo hL h0 hr hS hB hM
    have e : L = A 242 n + 1 := by omega
    subst e
    have ea : a 242 n = A 242 n := congrFun (hr 242 (by decide) (by decide)) n
    refine rc_go [60] 20 ?_
    refine And.intro i1 (And.intro ⟨rg_sm (by omega) (by omega), rg_sm (x := a 242 n) (by omega) (by omega)⟩ (And.intro (fun _ => ?_) (fun h => absurd (show a 242 n < A 242 n + 1 by omega) h)))
    exact hk a mo _ hr hS hB hM
  | succ k ih =>
    intro L a mo hL h0 hr hS hB hM
    obtain ⟨H1, H2, H3, H4, H5⟩ := hH
    have ea : a 242 n = A 242 n := congrFun (hr 242 (by decide) (by decide)) n
    have bm := Fm_b hm hM (by omega)
    have hF : rowF (oA m (fun _ => 0)) (oB m (fun _ => 0)) (nA1 m) (nB1 m) a := by
      unfold rowF
      rw [hr 237 (by decide) (by decide), hr 238 (by decide) (by decide)]
      exact H5
    refine rc_go [79] 30 ?_
    refine And.intro i1 (And.intro ⟨rg_sm (by omega) (by omega), rg_sm (x := a 242 n) (by omega) (by omega)⟩ (And.intro (fun h => absurd (show a 242 n < L from h) (by omega)) (fun _ => ?_)))
    refine Exists.intro 244 (And.intro ⟨Nat.le_refl _, Nat.le_refl _⟩ (c_goOn (d := d) hnf hn hm H1 H2 H3 H4 hU ⟨h0, by omega⟩ hF hS hB (fun a' go g1 g2 g3 => ?_)))
    have bg := Fm_b hm g3 (by omega)
    refine And.intro ⟨rg_sm (by omega) (by omega), rg_sm (by omega) (by omega)⟩ ?_
    have sub : ∀ t g, dK m (kc (n + 1)) n (Zb U (L + 1)) t g → dK m (kc (n + 1)) n (fun u l w b => Zb U L u l w b ∨ (gX u = U ∧ gY l w = L)) t g := fun t g hd => dK_Z (fun u l w g b _ hz => by
      rcases hz with hz | ⟨hz, hz2⟩
      · exact Or.inl (Or.inl hz)
      · by_cases c : gY l w = L
        · exact Or.inr ⟨hz, c⟩
        · exact Or.inl (Or.inr ⟨hz, by omega⟩)) hd
    refine ih (L + 1) a' (mX mo go) (by omega) (by omega) (fun o h1 h2 => (g1 o (nfo_ne hnf h1 h2).1).trans (hr o h1 h2)) (by rw [g1 nr (nfo_nf hnf)]; exact hS) (FB_D g2 sub) (Fm_or hM g3 (fun t g hd => ?_))
    obtain ⟨u, l, w, g0, b, h1, h2, h3, h4⟩ := sub t g hd
    rcases h3 with h3 | h3
    · exact Or.inl ⟨u, l, w, g0, b, h1, h2, h3, h4⟩
    · exact Or.inr ⟨u, l, w, g0, b, h1, h2, h3, h4⟩
theorem fq_u (hnf : nfo nr fa) (hn : n < 96) (hm : m = 0 ∨ m = 1) (hH : fqH m A fi) (hb : boxB A n) (hbx : ∀ u l w g, rr m n u l w g → inBx A (n : Int) (gX u) (gY l w))
    (hk : ∀ a mo x4 x5, rws A a → FB 1681 (tK m (kc n) n) (tK m (kc n) n) (a nr) → FB 1681 (tK m (kc (n + 1)) (n + 1)) (tK m (kc (n + 1)) (n + 1)) (a fa) → Fm (tK m (kc (n + 1)) (n + 1)) (tK m (kc (n + 1)) (n + 1)) mo → Rc 1 (Call 1 scL scX (d + 2)) (mt 50) P 244 scL scX 116 (LfQ inch n (some (.inl mo)) x4 x5) [] 244 fi (cF nr fa fr) (cA a) al) :
    ∀ (k : Nat) (U : Int) (a : tF) (mo : Int) (x5 : Option av), U + k = A 240 n + 1 → 0 ≤ U → rws A a → FB 1681 (tK m (kc n) n) (tK m (kc n) n) (a nr) → FB 1681 (tK m (kc (n + 1)) (n + 1)) (dK m (kc (n + 1)) n (fun u _ _ _ => gX u < U)) (a fa) → Fm (tK m (kc (n + 1)) (n + 1)) (dK m (kc (n + 1)) n (fun u _ _ _ => gX u < U)) mo → Rc 1 (Call 1 scL scX (d + 2)) (mt 50) P 244 scL scX 60 (LfQ inch n (some (.inl mo)) (some (.inl U)) x5) [] 244 fi (cF nr fa fr) (cA a) al := by
  have i1 : inb (n : Int) 96 := ⟨by omega, by show (n : Int) < 96; omega⟩
  have t1 : ((n : Int)).toNat = n := rfl
  have hbx : ∀ u l w g, rr m n u l w g → (A 239 n ≤ gX u ∧ gX u ≤ A 240 n) ∧ (A 241 n ≤ gY l w ∧ gY l w ≤ A 242 n) := fun u l w g h => by
    have := (hbx u l w g h).2.2 (by omega)
    rw [t1] at this
    exact this
  unfold boxB at hb
  intro k
  induction k with
  | zero =>
    intro U a mo x5 hU h0 hr hS hB hM
    have ea : a 240 n = A 240 n := congrFun (hr 240 (by decide) (by decide)) n
    have sub : ∀ t g, tK m (kc (n + 1)) (n + 1) t g → dK m (kc (n + 1)) n (fun u _ _ _ => gX u < U) t g := fun t g hd => dK_Z (fun u l w g b h _ => by have := hbx u l w g h; omega) (tK_d hd)
    refine rc_go [116] 20 ?_
    refine And.intro i1 (And.intro ⟨rg_sm (by omega) (by omega), rg_sm (x := a 240 n) (by omega) (by omega)⟩ (And.intro (fun _ => ?_) (fun h => absurd (show a 240 n < U by omega) h)))
    exact hk a mo _ _ hr hS (FB_D hB sub) (Fm_D hM sub)
  | succ k ih =>
    intro U a mo x5 hU h0 hr hS hB hM
    have ea : a 240 n = A 240 n := congrFun (hr 240 (by decide) (by decide)) n
    have eb : a 241 n = A 241 n := congrFun (hr 241 (by decide) (by decide)) n
    have s1 : ∀ t g, dK m (kc (n + 1)) n (Zb U (A 241 n)) t g → dK m (kc (n + 1)) n (fun u _ _ _ => gX u < U) t g := fun t g hd => dK_Z (fun u l w g b h hz => by
      have := hbx u l w g h
      rcases hz with hz | ⟨-, hz⟩
      · exact hz
      · omega) hd
    have s2 : ∀ t g, dK m (kc (n + 1)) n (fun u _ _ _ => gX u < U + 1) t g → dK m (kc (n + 1)) n (Zb U (A 242 n + 1)) t g := fun t g hd => dK_Z (fun u l w g b h hz => by
      have := hbx u l w g h
      have hz : gX u < U + 1 := hz
      by_cases c : gX u < U
      · exact Or.inl c
      · exact Or.inr ⟨by omega, by omega⟩) hd
    have key := fq_l (scL := scL) (scX := scX) (d := d) (fr := fr) (al := al) (P := P) (inch := inch) hnf hn hm hH ⟨by omega, by omega⟩ (U := U) ⟨h0, by omega⟩ (fun a' mo' x5 r1 r2 r3 r4 => ih (U + 1) a' mo' x5 (by omega) (by omega) r1 r2 (FB_D r3 s2) (Fm_D r4 s2)) (A 242 n + 1 - A 241 n).toNat (A 241 n) a mo (by omega) (by omega) hr hS (FB_D hB s1) (Fm_D hM s1)
    rw [← eb] at key
    refine rc_go [79] 20 ?_
    refine And.intro i1 (And.intro ⟨rg_sm (by omega) (by omega), rg_sm (x := a 240 n) (by omega) (by omega)⟩ (And.intro (fun h => absurd (show a 240 n < U from h) (by omega)) (fun _ => ?_)))
    refine And.intro i1 ?_
    exact key
theorem fN_FB {T : Nat → Int → Prop} {a : tF} {c : Nat} {D : Nat → Int → Prop} (hD : ∀ t g, ¬ D t g) : FB 1681 T D (fN a c 1681 (-1) c) := ⟨fun t ht => Or.inl (fN_at ht), fun t g h => absurd h (hD t g)⟩
theorem fq_q (hm : m = 0 ∨ m = 1) (hi : 0 ≤ inch ∧ inch ≤ 9999) (hH : fqH m A fi) (hK : bK a0 A 95)
    (hP : ∀ V nr fa a, nfo nr fa → rws A a → sP (fun n mo => Fm (tK m (kc n) n) (tK m (kc n) n) mo) inch V → P (.inl (some (.inl V))) fi (cF nr fa fr) (cA a) al) :
    ∀ (k n : Nat) (nr fa : Nat) (a : tF) (x3 x4 x5 : Option av), nfo nr fa → n + k = 96 → rws A a → (n < 96 → FB 1681 (tK m (kc n) n) (tK m (kc n) n) (a nr)) → (∀ j, j < n → ∃ mo, Fm (tK m (kc (j + 1)) (j + 1)) (tK m (kc (j + 1)) (j + 1)) mo ∧ mo < inch) → Rc 1 (Call 1 scL scX (d + 2)) (mt 50) P 244 scL scX 36 (LfQ inch n x3 x4 x5) [] 244 fi (cF nr fa fr) (cA a) al := by
  intro k
  induction k with
  | zero =>
    intro n nr fa a x3 x4 x5 hnf hn hr hS hh
    have e : n = 96 := by omega
    subst e
    refine rc_go [] 20 ?_
    exact And.intro ⟨⟨by decide, by decide⟩, ⟨by decide, by decide⟩⟩ (And.intro (fun _ => And.intro rfl (hP (-1) nr fa a hnf hr (Or.inr ⟨rfl, hh⟩))) (fun h => absurd (by decide : (96 : Int) ≤ 96) h))
  | succ k ih =>
    intro n nr fa a x3 x4 x5 hnf hn hr hS hh
    have hn' : n < 96 := by omega
    have hb : boxB A n := hK.2.2.2 n (by omega)
    have hbb := hb
    unfold boxB at hbb
    have i1 : inb (n : Int) 96 := ⟨by omega, by show (n : Int) < 96; omega⟩
    have fill : ∀ a1, a1 = fN a fa 1681 (-1) → Rc 1 (Call 1 scL scX (d + 2)) (mt 50) P 244 scL scX 50 (LfQ inch n x3 x4 x5) [] 244 fi (cF nr fa fr) (cA a1) al := fun a1 e1 => by
      have r1 : rws A a1 := fun o h1 h2 => by rw [e1, fN_row (nfo_ne hnf h1 h2).1]; exact hr o h1 h2
      have eb : a1 239 n = A 239 n := congrFun (r1 239 (by decide) (by decide)) n
      have key := fq_u (scL := scL) (scX := scX) (d := d) (fr := fr) (al := al) (P := P) (inch := inch) hnf hn' hm hH hb (fun u l w g h => rr_bx hm hK hH.2.2.2.2 n hn' h) (fun a' mo x4' x5' q1 q2 q3 q4 => ?_) (A 240 n + 1 - A 239 n).toNat (A 239 n) a1 (-1) x5 (by omega) (by omega) r1 (by rw [e1, fN_row (nfo_nf hnf)]; exact hS hn') (by
          rw [e1]
          exact fN_FB (fun t g h => by
            obtain ⟨u, l, w, g0, b, h1, h2, h3, h4⟩ := h
            have := (rr_bx hm hK hH.2.2.2.2 n hn' h1).2.2 (by omega)
            have t1 : ((n : Int)).toNat = n := rfl
            rw [t1] at this
            have h3 : gX u < A 239 n := h3
            omega)) ⟨Or.inl rfl, fun t g h => by
            obtain ⟨u, l, w, g0, b, h1, h2, h3, h4⟩ := h
            have := (rr_bx hm hK hH.2.2.2.2 n hn' h1).2.2 (by omega)
            have t1 : ((n : Int)).toNat = n := rfl
            rw [t1] at this
            have h3 : gX u < A 239 n := h3
            omega⟩
      · rw [← eb] at key
        refine rc_go [60] 20 ?_
        refine And.intro i1 ?_
        exact key
      · have bm := Fm_b hm q4 (by omega)
        refine rc_go [36] 20 ?_
        refine And.intro ⟨rg_sm (by omega) (by omega), rg_sm (by omega) (by omega)⟩ (And.intro (fun h => ?_) (fun h => ?_))
        · have h : mo < inch := h
          refine Exists.intro 244 (And.intro ⟨Nat.le_refl _, Nat.le_refl _⟩ (c_swap ?_))
          refine ih (n + 1) fa nr a' _ _ _ (Or.elim hnf (fun z => Or.inr ⟨z.2, z.1⟩) (fun z => Or.inl ⟨z.2, z.1⟩)) (by omega) q1 (fun _ => q3) (fun j hj => ?_)
          by_cases c : j < n
          · exact hh j c
          · have e : j = n := by omega
            subst e
            exact ⟨mo, q4, h⟩
        · have h : ¬ mo < inch := h
          exact And.intro rfl (hP n nr fa a' hnf q1 (Or.inl ⟨n, hn', rfl, ⟨mo, q4, by omega⟩, hh⟩))
    have fl := fill _ rfl
    rcases hnf with ⟨rfl, rfl⟩ | ⟨rfl, rfl⟩
    · rw [← fN_cA (by decide)] at fl
      refine rc_go [50] 20 ?_
      refine And.intro ⟨rg_sm (by omega) (by omega), ⟨by decide, by decide⟩⟩ (And.intro (fun h => absurd (show (96 : Int) ≤ (n : Int) from h) (by omega)) (fun _ => ?_))
      refine Exists.intro 244 (And.intro ⟨Nat.le_refl _, Nat.le_refl _⟩ (c_fill_235 ?_))
      exact fl
    · rw [← fN_cA (by decide)] at fl
      refine rc_go [50] 20 ?_
      refine And.intro ⟨rg_sm (by omega) (by omega), ⟨by decide, by decide⟩⟩ (And.intro (fun h => absurd (show (96 : Int) ≤ (n : Int) from h) (by omega)) (fun _ => ?_))
      refine Exists.intro 244 (And.intro ⟨Nat.le_refl _, Nat.le_refl _⟩ (c_fill_234 ?_))
      exact fl
theorem c_firstQ {ai : tF} (hm : m = 0 ∨ m = 1) (hi : 0 ≤ inch ∧ inch ≤ 9999) (h10 : fi 233 10 = 40) (h11 : fi 233 11 = 1 - m) (h12 : fi 233 12 = m) (hF : rowF (oA m (fun _ => 0)) (oB m (fun _ => 0)) (nA1 m) (nB1 m) ai)
    (hP : ∀ V nr fa a fi', nfo nr fa → (∀ o, o < 234 → a o = ai o) → (∀ o, o ≠ 233 → fi' o = fi o) → sP (fun n mo => Fm (tK m (kc n) n) (tK m (kc n) n) mo) inch V → P (.inl (some (.inl V))) fi' (cF nr fa fr) (cA a) al) :
    Call 1 scL scX (d + 3) 50 [.inr (.inl (some 233)), .inl inch] 244 fi (cF 234 235 fr) (cA ai) al 244 P := by
  have hR := rowR_m hm hF
  refine ⟨⟨Nat.le_refl _, rfl⟩, rc_go [36] 40 ?_⟩
  refine Exists.intro 244 (And.intro ⟨Nat.le_refl _, Nat.le_refl _⟩ (c_bound (d := d) (K := bK ai) (fun A q h0 h1 h => bK_b hR A q h0 h1 h) (fun A q h0 h1 h => bK_step hR h0 h1 h) (bK_0 ai) (fun A hK => ?_)))
  have e7 : A 237 = ai 237 := hK.1 237 (by decide) (by decide) (by decide) (by decide)
  have e8 : A 238 = ai 238 := hK.1 238 (by decide) (by decide) (by decide) (by decide)
  have hF2 : rowF (oA m (fun _ => 0)) (oB m (fun _ => 0)) (nA1 m) (nB1 m) A := by
    unfold rowF
    rw [e7, e8]
    exact hF
  refine Exists.intro 244 (And.intro ⟨Nat.le_refl _, Nat.le_refl _⟩ (c_fill_234 (d := d + 1) ?_))
  rw [fN_cA (by decide)]
  have i9 : inb 0 96 := ⟨by decide, by decide⟩
  have b9 : fN A 234 1681 (-1) 239 0 = 12 := by rw [fN_row (by decide)]; exact hK.2.1.1
  have b1 : fN A 234 1681 (-1) 241 0 = 10 := by rw [fN_row (by decide)]; exact hK.2.1.2.2.1
  refine And.intro i9 (And.intro i9 ?_)
  refine Exists.intro 244 (And.intro ⟨Nat.le_refl _, Nat.le_refl _⟩ (c_placeOf (u := fN A 234 1681 (-1) 239 0) (l := fN A 234 1681 (-1) 241 0) rfl ?_))
  rw [b9, b1]
  refine And.intro ⟨by decide, by decide⟩ ?_
  have key := fq_q (scL := scL) (scX := scX) (d := d) (fi := up2 fi 233 13 21) (fr := fr) (al := al) (P := P) (inch := inch) (A := A) (a0 := ai) hm hi ⟨rfl, h10, h11, h12, hF2⟩ hK (fun V nr fa a g1 g2 g3 => hP V nr fa a _ g1 (fun o ho => by rw [g2 o (by omega) (by omega)]; exact hK.1 o (by omega) (by omega) (by omega) (by omega)) (fun o ho => up2_row ho) g3) 96 0 234 235 (up2 (fN A 234 1681 (-1)) 234 262 0) none none none (Or.inl ⟨rfl, rfl⟩) (by decide) (fun o h1 h2 => by rw [up2_row h1, fN_row h1]) (fun _ => ⟨fun t ht => ?_, fun t g h => ?_⟩) (fun j hj => absurd hj (by omega))
  · rw [← cA_up rfl] at key
    exact key
  · rw [up2_k]
    by_cases c : t = 262
    · rw [if_pos c]
      exact Or.inr ⟨10, 10, 0, ⟨rfl, rfl, rfl, rfl⟩, c⟩
    · rw [if_neg c]
      exact Or.inl (fN_at ht)
  · obtain ⟨u, l, w, ⟨rfl, rfl, rfl, rfl⟩, rfl⟩ := h
    rw [up2_k, if_pos (show kc 0 10 10 0 = 262 by decide)]
    exact Int.le_refl 0
end FirstQ
