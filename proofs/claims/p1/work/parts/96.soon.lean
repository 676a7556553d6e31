/-! soonest: the reference as a whole, and the call -/
section RSoon
variable {scL : Nat} {scX : Nat → Int} {d N : Nat} {fi : tF} {fr : tR} {al : tL} {P : ot} {m inch : Int} {n : Nat} {a0 f0 : tF}
/-- rows besides value and ahead -/
def rws2 (A a : tF) : Prop := ∀ o, o ≠ 126 → o ≠ 127 → a o = A o
def fld40 (f0 f : tF) : Prop := (∀ o, o ≠ 54 → f o = f0 o) ∧ ∀ k, k ≠ 40 → f 54 k = f0 54 k
/-- the first filling -/
theorem s1_l (hk : ∀ a, rws2 a0 a → (∀ j, j < 21853 → a 127 j = -1) → Rc 1 (Call 1 scL scX d) (mt 201) P N scL scX 98 [some (.inr (.inl (some 54))), some (.inl m), some (.inl inch), some (.inl 21853), none, none] [] N fi (rF fr) (rA a) al) :
    ∀ (k s : Nat) (a : tF), s + k = 21853 → rws2 a0 a → (∀ j, j < s → a 127 j = -1) → Rc 1 (Call 1 scL scX d) (mt 201) P N scL scX 78 [some (.inr (.inl (some 54))), some (.inl m), some (.inl inch), some (.inl (s : Int)), none, none] [] N fi (rF fr) (rA a) al := by
  intro k
  induction k with
  | zero =>
    intro s a hn hr hj
    have e : s = 21853 := by omega
    subst e
    refine rc_go [98] 10 ?_
    exact And.intro ⟨⟨by decide, by decide⟩, ⟨by decide, by decide⟩⟩ (And.intro (fun _ => hk a hr hj) (fun h => absurd (by decide : (21853 : Int) ≤ 21853) h))
  | succ k ih =>
    intro s a hn hr hj
    have key := ih (s + 1) (up2 a 127 s (-1)) (by omega) (fun o h1 h2 => by rw [up2_row h2]; exact hr o h1 h2) (fun j hj2 => by
      rw [up2_k]
      by_cases c : j = s
      · rw [if_pos c]
      · rw [if_neg c]; exact hj j (by omega))
    rw [← rA_up (by decide) (by decide)] at key
    refine rc_go [78] 20 ?_
    refine And.intro ⟨rg_sm (by omega) (by omega), ⟨by decide, by decide⟩⟩ (And.intro (fun h => absurd (show (21853 : Int) ≤ (s : Int) from h) (by omega)) (fun _ => ?_))
    refine And.intro ⟨by omega, by show (s : Int) < 21853; omega⟩ ?_
    exact key
def LsR (m inch q : Int) (x4 x5 : Option av) : List (Option av) := [some (.inr (.inl (some 54))), some (.inl m), some (.inl inch), some (.inl q), x4, x5]
/-- the filling of a quarter -/
theorem s2_l {q : Int} {x5 : Option av} (hk : ∀ a, (∀ o, o ≠ 126 → a o = a0 o) → (∀ j, j < 21853 → a 126 j = -1) → Rc 1 (Call 1 scL scX d) (mt 201) P N scL scX 155 (LsR m inch q (some (.inl 21853)) x5) [] N fi (rF fr) (rA a) al) :
    ∀ (k s : Nat) (a : tF), s + k = 21853 → (∀ o, o ≠ 126 → a o = a0 o) → (∀ j, j < s → a 126 j = -1) → Rc 1 (Call 1 scL scX d) (mt 201) P N scL scX 133 (LsR m inch q (some (.inl (s : Int))) x5) [] N fi (rF fr) (rA a) al := by
  intro k
  induction k with
  | zero =>
    intro s a hn hr hj
    have e : s = 21853 := by omega
    subst e
    refine rc_go [155] 10 ?_
    exact And.intro ⟨⟨by decide, by decide⟩, ⟨by decide, by decide⟩⟩ (And.intro (fun _ => hk a hr hj) (fun h => absurd (by decide : (21853 : Int) ≤ 21853) h))
  | succ k ih =>
    intro s a hn hr hj
    have key := ih (s + 1) (up2 a 126 s (-1)) (by omega) (fun o h1 => by rw [up2_row h1]; exact hr o h1) (fun j hj2 => by
      rw [up2_k]
      by_cases c : j = s
      · rw [if_pos c]
      · rw [if_neg c]; exact hj j (by omega))
    rw [← rA_up (by decide) (by decide)] at key
    refine rc_go [133] 20 ?_
    refine And.intro ⟨rg_sm (by omega) (by omega), ⟨by decide, by decide⟩⟩ (And.intro (fun h => absurd (show (21853 : Int) ≤ (s : Int) from h) (by omega)) (fun _ => ?_))
    refine And.intro ⟨by omega, by show (s : Int) < 21853; omega⟩ ?_
    exact key
/-- the copy behind a quarter -/
theorem s3_l {q : Int} {z : Int} (hk : ∀ a x5, (∀ o, o ≠ 127 → a o = a0 o) → (∀ j, j < 21853 → a 127 j = a0 126 j) → Rc 1 (Call 1 scL scX d) (mt 201) P N scL scX 242 (LsR m inch q (some (.inl z)) x5) [] N fi (rF fr) (rA a) al) :
    ∀ (k s : Nat) (a : tF), s + k = 21853 → (∀ o, o ≠ 127 → a o = a0 o) → (∀ j, j < s → a 127 j = a0 126 j) → Rc 1 (Call 1 scL scX d) (mt 201) P N scL scX 214 (LsR m inch q (some (.inl z)) (some (.inl (s : Int)))) [] N fi (rF fr) (rA a) al := by
  intro k
  induction k with
  | zero =>
    intro s a hn hr hj
    have e : s = 21853 := by omega
    subst e
    refine rc_go [242] 10 ?_
    exact And.intro ⟨⟨by decide, by decide⟩, ⟨by decide, by decide⟩⟩ (And.intro (fun _ => hk a _ hr hj) (fun h => absurd (by decide : (21853 : Int) ≤ 21853) h))
  | succ k ih =>
    intro s a hn hr hj
    have key := ih (s + 1) (up2 a 127 s (a 126 s)) (by omega) (fun o h1 => by rw [up2_row h1]; exact hr o h1) (fun j hj2 => by
      rw [up2_k]
      by_cases c : j = s
      · rw [if_pos c, c, hr 126 (by decide)]
      · rw [if_neg c]; exact hj j (by omega))
    rw [← rA_up (by decide) (by decide)] at key
    have is : inb (s : Int) 21853 := ⟨by omega, by show (s : Int) < 21853; omega⟩
    refine rc_go [214] 20 ?_
    refine And.intro ⟨rg_sm (by omega) (by omega), ⟨by decide, by decide⟩⟩ (And.intro (fun h => absurd (show (21853 : Int) ≤ (s : Int) from h) (by omega)) (fun _ => ?_))
    refine And.intro is (And.intro is ?_)
    exact key
/-- all states of a quarter -/
theorem s4_l (hn : n < 96) (hm : m = 0 ∨ m = 1) (h80 : ∀ k, a0 80 k = 0) (h81 : ∀ k, a0 81 k = 0) (f37 : f0 54 37 = 1 - m) (f38 : f0 54 38 = m) (f39 : f0 54 39 = 40) (hS : FB 21853 (tK m sx n) (tK m sx n) (a0 127))
    (hk : ∀ f a mo x5, fld40 f0 f → (∀ o, o ≠ 126 → a o = a0 o) → FB 21853 (tK m sx (n + 1)) (tK m sx (n + 1)) (a 126) → Fm (tK m sx (n + 1)) (tK m sx (n + 1)) mo → Rc 1 (Call 1 scL scX (d + 4)) (mt 201) P N scL scX 203 (LsR m inch n (some (.inl mo)) x5) [] N f (rF fr) (rA a) al) :
    ∀ (k s : Nat) (f a : tF) (mo : Int), s + k = 21853 → fld40 f0 f → (∀ o, o ≠ 126 → a o = a0 o) → FB 21853 (tK m sx (n + 1)) (dK m sx n (fun u l w _ => sx u l w < s)) (a 126) → Fm (tK m sx (n + 1)) (dK m sx n (fun u l w _ => sx u l w < s)) mo → Rc 1 (Call 1 scL scX (d + 4)) (mt 201) P N scL scX 161 (LsR m inch n (some (.inl mo)) (some (.inl (s : Int)))) [] N f (rF fr) (rA a) al := by
  intro k
  induction k with
  | zero =>
    intro s f a mo hs hf hr hB hM
    have e : s = 21853 := by omega
    subst e
    have sub : ∀ t g, tK m sx (n + 1) t g → dK m sx n (fun u l w _ => sx u l w < 21853) t g := fun t g hd => dK_Z (fun u l w g b h _ => by
      have := rr_b hm n h
      show sx u l w < 21853
      unfold sx
      omega) (tK_d hd)
    refine rc_go [203] 10 ?_
    exact And.intro ⟨⟨by decide, by decide⟩, ⟨by decide, by decide⟩⟩ (And.intro (fun _ => hk f a mo _ hf hr (FB_D hB sub) (Fm_D hM sub)) (fun h => absurd (by decide : (21853 : Int) ≤ 21853) h))
  | succ k ih =>
    intro s f a mo hs hf hr hB hM
    have is : inb (s : Int) 21853 := ⟨by omega, by show (s : Int) < 21853; omega⟩
    have ea : a 127 s = a0 127 s := congrFun (hr 127 (by decide)) s
    have vb := FB_b hm hS (by omega) s (by omega)
    refine rc_go [161] 40 ?_
    refine And.intro ⟨rg_sm (by omega) (by omega), ⟨by decide, by decide⟩⟩ (And.intro (fun h => absurd (show (21853 : Int) ≤ (s : Int) from h) (by omega)) (fun _ => ?_))
    refine And.intro is (And.intro (fun hne => And.intro (rg_sm (x := a 127 s) (by omega) (by omega)) (And.intro ⟨by decide, by decide⟩ ?_)) (fun he => ?_))
    · have hne : a 127 s ≠ -1 := hne
      rcases hS.1 s (by omega) with e | ⟨u, l, w, hr1, hs1⟩
      · omega
      · obtain ⟨b1, b2, b3, b4⟩ := rr_b hm n hr1
        obtain ⟨dw, dl, du⟩ := sx_dec b1.1 b2 b3
        subst hs1
        refine Exists.intro N (And.intro ⟨Nat.le_refl _, Nat.le_refl _⟩ (gf_h (d := d) (w := w) (l := l) (u := u) hm ⟨by omega, by omega⟩ ⟨by omega, by omega⟩ dw dl du (fun k => by rw [hr 80 (by decide)]; exact h80 k) (fun k => by rw [hr 81 (by decide)]; exact h81 k) ?_))
        have base : gR m n (sx u l w) (fun u' l' w' _ => sx u' l' w' < sx u l w) ((0 : Nat) : Int) (a 126) mo := by
          have sub : ∀ t g, dK m sx n (fun u' l' w' b => sx u' l' w' < sx u l w ∨ (sx u' l' w' = sx u l w ∧ b < ((0 : Nat) : Int))) t g → dK m sx n (fun u' l' w' _ => sx u' l' w' < sx u l w) t g := fun t g hd => by
            obtain ⟨u', l', w', g0, b, h1, h2, h3, h4⟩ := hd
            rcases h3 with h3 | ⟨-, h3⟩
            · exact ⟨u', l', w', g0, b, h1, h2, h3, h4⟩
            · omega
          exact ⟨FB_D hB sub, Fm_D hM sub⟩
        refine gf_l (d := d) (mo0 := mo) (f0 := f) (a0 := a) hn hm hr1 (fun g hg => hS.2 _ g hg) ea (by rw [hf.2 37 (by decide)]; exact f37) (by rw [hf.2 38 (by decide)]; exact f38) (by rw [hf.2 39 (by decide)]; exact f39) (fun f' a' mo' q1 q2 q3 q4 => ?_) 4 0 f a mo none (by decide) (fun _ _ => rfl) (fun _ _ => rfl) (fun _ _ => rfl) base
        have sub : ∀ t g, dK m sx n (fun u' l' w' _ => sx u' l' w' < sx u l w + 1) t g → dK m sx n (fun u' l' w' b => sx u' l' w' < sx u l w ∨ (sx u' l' w' = sx u l w ∧ b < 4)) t g := fun t g hd => by
          obtain ⟨u', l', w', g0, b, h1, h2, h3, h4⟩ := hd
          have h3 : sx u' l' w' < sx u l w + 1 := h3
          refine ⟨u', l', w', g0, b, h1, h2, ?_, h4⟩
          by_cases c : sx u' l' w' < sx u l w
          · exact Or.inl c
          · exact Or.inr ⟨by omega, by omega⟩
        exact ih (sx u l w + 1) f' a' mo' (by omega) ⟨fun o ho => (q1 o ho).trans (hf.1 o ho), fun k hk => (q2 k hk).trans (hf.2 k hk)⟩ (fun o ho => (q3 o ho).trans (hr o ho)) (FB_D q4.1 sub) (Fm_D q4.2 sub)
    · have he : a 127 s = -1 := he
      have sub : ∀ t g, dK m sx n (fun u l w _ => sx u l w < s + 1) t g → dK m sx n (fun u l w _ => sx u l w < s) t g := fun t g hd => dK_Z (fun u l w g b h hz => by
        have hz : sx u l w < s + 1 := hz
        show sx u l w < s
        by_cases c : sx u l w = s
        · have := hS.2 s g ⟨u, l, w, h, c.symm⟩
          have := (rr_b hm n h).2.2.2
          omega
        · omega) hd
      exact ih (s + 1) f a mo (by omega) hf hr (FB_D hB sub) (Fm_D hM sub)
theorem s5_l (hm : m = 0 ∨ m = 1) (hi : 0 ≤ inch ∧ inch ≤ 9999) (h80 : ∀ k, a0 80 k = 0) (h81 : ∀ k, a0 81 k = 0) (f37 : f0 54 37 = 1 - m) (f38 : f0 54 38 = m) (f39 : f0 54 39 = 40)
    (hP : ∀ V f a, fld40 f0 f → sP (fun n mo => Fm (tK m sx n) (tK m sx n) mo) inch V → P (.inl (some (.inl V))) f (rF fr) (rA a) al) :
    ∀ (k n : Nat) (f a : tF) (x4 x5 : Option av), n + k = 96 → fld40 f0 f → rws2 a0 a → (n < 96 → FB 21853 (tK m sx n) (tK m sx n) (a 127)) → (∀ j, j < n → ∃ mo, Fm (tK m sx (j + 1)) (tK m sx (j + 1)) mo ∧ mo < inch) → Rc 1 (Call 1 scL scX (d + 4)) (mt 201) P N scL scX 124 (LsR m inch n x4 x5) [] N f (rF fr) (rA a) al := by
  intro k
  induction k with
  | zero =>
    intro n f a x4 x5 hn hf hr hS hh
    have e : n = 96 := by omega
    subst e
    refine rc_go [] 20 ?_
    exact And.intro ⟨⟨by decide, by decide⟩, ⟨by decide, by decide⟩⟩ (And.intro (fun _ => And.intro rfl (hP (-1) f a hf (Or.inr ⟨rfl, hh⟩))) (fun h => absurd (by decide : (96 : Int) ≤ 96) h))
  | succ k ih =>
    intro n f a x4 x5 hn hf hr hS hh
    have hn' : n < 96 := by omega
    refine rc_go [133] 20 ?_
    refine And.intro ⟨rg_sm (by omega) (by omega), ⟨by decide, by decide⟩⟩ (And.intro (fun h => absurd (show (96 : Int) ≤ (n : Int) from h) (by omega)) (fun _ => ?_))
    refine s2_l (a0 := a) (q := (n : Int)) (fun a1 g1 g2 => ?_) 21853 0 a (by decide) (fun _ _ => rfl) (fun j hj => absurd hj (by omega))
    refine rc_go [161] 10 ?_
    have e80 : ∀ k, a1 80 k = 0 := fun k => by rw [g1 80 (by decide), hr 80 (by decide) (by decide)]; exact h80 k
    have e81 : ∀ k, a1 81 k = 0 := fun k => by rw [g1 81 (by decide), hr 81 (by decide) (by decide)]; exact h81 k
    have nD : ∀ t g, ¬ dK m sx n (fun u l w _ => sx u l w < 0) t g := fun t g h => by
      obtain ⟨u, l, w, g0, b, h1, h2, h3, h4⟩ := h
      have h3 : sx u l w < 0 := h3
      omega
    refine s4_l (d := d) (n := n) (f0 := f) (a0 := a1) hn' hm e80 e81 (by rw [hf.2 37 (by decide)]; exact f37) (by rw [hf.2 38 (by decide)]; exact f38) (by rw [hf.2 39 (by decide)]; exact f39) (by rw [g1 127 (by decide)]; exact hS hn') (fun f2 a2 mo x5' q1 q2 q3 q4 => ?_) 21853 0 f a1 (-1) (by decide) ⟨fun _ _ => rfl, fun _ _ => rfl⟩ (fun _ _ => rfl) ⟨fun t ht => Or.inl (g2 t ht), fun t g h => absurd h (nD t g)⟩ ⟨Or.inl rfl, fun t g h => absurd h (nD t g)⟩
    have hf2 : fld40 f0 f2 := ⟨fun o ho => (q1.1 o ho).trans (hf.1 o ho), fun k hk => (q1.2 k hk).trans (hf.2 k hk)⟩
    have bm := Fm_b hm q4 (by omega)
    refine rc_go [214] 20 ?_
    refine And.intro ⟨rg_sm (by omega) (by omega), rg_sm (by omega) (by omega)⟩ (And.intro (fun h => ?_) (fun h => ?_))
    · have h : mo < inch := h
      refine s3_l (a0 := a2) (q := (n : Int)) (fun a3 x5 p1 p2 => ?_) 21853 0 a2 (by decide) (fun _ _ => rfl) (fun j hj => absurd hj (by omega))
      have nx := ih (n + 1) f2 a3 (some (.inl mo)) x5 (by omega) hf2 (fun o h1 h2 => by rw [p1 o h2, q2 o h1, g1 o h1]; exact hr o h1 h2) (fun _ => ⟨fun t ht => by rw [p2 t ht]; exact q3.1 t ht, fun t g ht => by
        have hb : t < 21853 := by
          obtain ⟨u, l, w, h1, rfl⟩ := ht
          have := rr_b hm (n + 1) h1
          unfold sx
          omega
        rw [p2 t hb]
        exact q3.2 t g ht⟩) (fun j hj => by
          by_cases c : j < n
          · exact hh j c
          · have e : j = n := by omega
            subst e
            exact ⟨mo, q4, h⟩)
      refine rc_go [124] 10 ?_
      exact nx
    · have h : ¬ mo < inch := h
      exact And.intro rfl (hP n f2 a2 hf2 (Or.inl ⟨n, hn', rfl, ⟨mo, q4, by omega⟩, hh⟩))
theorem c_msoonest {ai : tF} (hm : m = 0 ∨ m = 1) (hi : 1 ≤ inch ∧ inch ≤ 9999) (h80 : ∀ k, ai 80 k = 0) (h81 : ∀ k, ai 81 k = 0) (hP : ∀ V f a, f 54 0 = 0 → sP (fun n mo => Fm (tK m sx n) (tK m sx n) mo) inch V → P (.inl (some (.inl V))) f (rF fr) (rA a) al) :
    Call 1 scL scX (d + 5) 201 [.inr (.inl (some 54)), .inl m, .inl inch] N fi (rF fr) (rA ai) al N P := by
  refine ⟨⟨Nat.le_refl _, rfl⟩, rc_go [78] 80 ?_⟩
  refine Exists.intro N (And.intro ⟨Nat.le_refl _, Nat.le_refl _⟩ (c_isMill hm ?_))
  refine And.intro (fun _ => And.intro ⟨by decide, by decide⟩ (And.intro ⟨by decide, by decide⟩ ?_)) (fun h => absurd h (by decide))
  refine Exists.intro N (And.intro ⟨Nat.le_refl _, Nat.le_refl _⟩ (c_bad0 rfl ?_))
  refine And.intro (fun h => absurd rfl h) (fun _ => ?_)
  refine Exists.intro N (And.intro ⟨Nat.le_refl _, Nat.le_refl _⟩ (c_in1 (rg_sm (by omega) (by omega)) ⟨by decide, by decide⟩ ⟨by decide, by decide⟩ ⟨by omega, by omega⟩ ?_))
  refine And.intro (fun _ => And.intro ⟨by decide, by decide⟩ (And.intro ⟨by decide, by decide⟩ ?_)) (fun h => absurd h (by decide))
  refine Exists.intro N (And.intro ⟨Nat.le_refl _, Nat.le_refl _⟩ (c_bad0 rfl ?_))
  refine And.intro (fun _ => ?_) (fun h => absurd rfl h)
  refine And.intro ⟨by decide, by decide⟩ ?_
  refine s1_l (a0 := ai) (fun a g1 g2 => ?_) 21853 0 ai (by decide) (fun _ _ _ => rfl) (fun j hj => absurd hj (by omega))
  have key := s5_l (scL := scL) (scX := scX) (d := d) (N := N) (fr := fr) (al := al) (P := P) (m := m) (inch := inch) (a0 := up2 a 127 5460 0) (f0 := up2 (up2 (up2 (up2 fi 54 0 0) 54 37 (1 - m)) 54 38 m) 54 39 40) hm ⟨by omega, hi.2⟩ (fun k => by rw [up2_row (by decide), g1 80 (by decide) (by decide)]; exact h80 k) (fun k => by rw [up2_row (by decide), g1 81 (by decide) (by decide)]; exact h81 k) rfl rfl rfl (fun V f a' q1 q2 => hP V f a' (q1.2 0 (by decide)) q2) 96 0 _ (up2 a 127 5460 0) none none (by decide) ⟨fun _ _ => rfl, fun _ _ => rfl⟩ (fun _ _ _ => rfl) (fun _ => ⟨fun t ht => ?_, fun t g h => ?_⟩) (fun j hj => absurd hj (by omega))
  · rw [← rA_up (by decide) (by decide)] at key
    refine rc_go [124] 30 ?_
    refine And.intro ⟨by decide, by decide⟩ (And.intro ⟨by decide, by decide⟩ ?_)
    refine Exists.intro N (And.intro ⟨Nat.le_refl _, Nat.le_refl _⟩ (c_state ?_))
    refine And.intro ⟨(show (0 : Int) ≤ (10 * 41 + 10) * 13 + 0 by decide), (show ((10 : Int) * 41 + 10) * 13 + 0 < 21853 by decide)⟩ ?_
    exact key
  · rw [up2_k]
    by_cases c : t = 5460
    · rw [if_pos c]
      exact Or.inr ⟨10, 10, 0, ⟨rfl, rfl, rfl, rfl⟩, c⟩
    · rw [if_neg c]
      exact Or.inl (g2 t ht)
  · obtain ⟨u, l, w, ⟨rfl, rfl, rfl, rfl⟩, rfl⟩ := h
    rw [up2_k, if_pos (show sx 10 10 0 = 5460 by decide)]
    exact Int.le_refl 0
end RSoon
theorem g_33 {scX : Nat → Int} (hI : ∀ j, -2147483648 ≤ scX j ∧ scX j ≤ 2147483647) (hop : b32 (fun p q => p &&& q) (scX 0) 63 = 33) : Good scX := by
  by_cases c : (0 ≤ scX 1 ∧ scX 1 ≤ 1) ∧ (1 ≤ scX 2 ∧ scX 2 ≤ 9999)
  · have hm : scX 1 = 0 ∨ scX 1 = 1 := by omega
    refine ga_33 hop ?_
    rw [← cA_h0]
    refine ⟨⟨by decide, rfl⟩, rc_go [] 40 ?_⟩
    refine Exists.intro 233 (And.intro ⟨by decide, by decide⟩ (c_needMill (d := 28) hm ?_))
    refine Exists.intro 233 (And.intro ⟨by decide, by decide⟩ (c_needR (d := 28) (rg_sm (by omega) (by omega)) ⟨by decide, by decide⟩ ⟨by decide, by decide⟩ c.2.1 c.2.2 ?_))
    refine Exists.intro 244 (And.intro ⟨by decide, by decide⟩ (c_ready (d := 27) ?_))
    rw [clS_cA]
    have hp' : plO (some 29) (clS h0A 0) (fun _ => 0) := plO_h (by rw [clS_row (by decide)])
    refine Exists.intro 244 (And.intro ⟨by decide, by decide⟩ (c_freeOne0 (d := 26) hm hp' ?_))
    refine Exists.intro 244 (And.intro ⟨by decide, by decide⟩ (c_firstQ (d := 26) (m := scX 1) hm ⟨by omega, c.2.2⟩ rfl rfl rfl (rowF_one hm) (fun V nr fa a fi' hnf h1 h2 hV => ?_)))
    refine And.intro rfl ⟨V, rfl, ?_⟩
    have e : ∀ o, o < 234 → a o = h0A o := fun o ho => by
      rw [h1 o ho, foN_row (by omega) (by omega), fN_row (by omega), fN_row (by omega), clS_row ho]
    rw [← rF_c, ← rA_h0 (e 58 (by decide)) (e 60 (by decide))]
    refine c_msoonest (d := 26) hm c.2 (fun k => congrFun (e 80 (by decide)) k) (fun k => congrFun (e 81 (by decide)) k) (fun W f a' h0 hW => ⟨?_, h0, rfl⟩)
    have eV : V = W := sP_eq (F := fun n mo => Fm (tK (scX 1) (kc n) n) (tK (scX 1) (kc n) n) mo) (G := fun n mo => Fm (tK (scX 1) sx n) (tK (scX 1) sx n) mo) (fun n a b ha hb => Fm_eq (n := n) hm ha hb) hV hW
    rw [eV]
  · exact g_33_no hI hop c
