/-! soonest: the reference's goesFrom -/
theorem sx_dec {u l w : Int} (hu : 0 ≤ u) (hl : 0 ≤ l ∧ l ≤ 20) (hw : 0 ≤ w ∧ w ≤ 3) : ((sx u l w : Nat) : Int).tmod 13 = w ∧ (((sx u l w : Nat) : Int).tdiv 13).tmod 41 = l ∧ (((sx u l w : Nat) : Int).tdiv 13).tdiv 41 = u := by
  have e : ((sx u l w : Nat) : Int) = (u * 41 + l) * 13 + w := by unfold sx; omega
  rw [e]
  have p : 0 ≤ (u * 41 + l) * 13 + w := by omega
  rw [Int.tmod_eq_emod_of_nonneg p, Int.tdiv_eq_ediv_of_nonneg p]
  have q : ((u * 41 + l) * 13 + w) / 13 = u * 41 + l := by omega
  rw [q]
  have p2 : 0 ≤ u * 41 + l := by omega
  rw [Int.tmod_eq_emod_of_nonneg p2, Int.tdiv_eq_ediv_of_nonneg p2]
  omega
section GoS2
variable {m : Int} {n : Nat} {Z : Int → Int → Int → Int → Prop}
def gR (m : Int) (n s : Nat) (Z : Int → Int → Int → Int → Prop) (a : Int) (B : Nat → Int) (mo : Int) : Prop := FB 21853 (tK m sx (n + 1)) (dK m sx n (fun u l w b => Z u l w b ∨ (sx u l w = s ∧ b < a))) B ∧ Fm (tK m sx (n + 1)) (dK m sx n (fun u l w b => Z u l w b ∨ (sx u l w = s ∧ b < a))) mo
theorem gR_s {u l w v a g : Int} {t : Nat} {B B' : Nat → Int} {mo : Int} (hm : m = 0 ∨ m = 1) (hr : rr m n u l w v) (hv : ∀ g, tK m sx n (sx u l w) g → g ≤ v) (ha : 0 ≤ a ∧ a ≤ 3) (hg : g = v + gn m a (gX u) (gY l w)) (ht : t = sx (gX u - gM (aU m a) (gX u)) (gY l w - gM (aL m a) (gY l w)) (gM (aU m a) (gX u))) (htb : t < 21853) (hB : ∀ k, B' k = if k = t then mX (B t) g else B k) (H : gR m n (sx u l w) Z a B mo) : gR m n (sx u l w) Z (a + 1) B' (mX mo g) := by
  have hT : tK m sx (n + 1) t g := by
    rw [hg, ht]
    exact ⟨_, _, _, ⟨u, l, w, v, a, hr, ha, rfl, rfl, rfl, rfl⟩, rfl⟩
  have b0 := rr_b hm n hr
  have cov : ∀ t' g', dK m sx n (fun u' l' w' b => Z u' l' w' b ∨ (sx u' l' w' = sx u l w ∧ b < a + 1)) t' g' → dK m sx n (fun u' l' w' b => Z u' l' w' b ∨ (sx u' l' w' = sx u l w ∧ b < a)) t' g' ∨ (t' = t ∧ g' ≤ g) := fun t' g' hd => by
    obtain ⟨u', l', w', g0, b, h1, h2, h3, h4, h5⟩ := hd
    rcases h3 with h3 | ⟨e, h3⟩
    · exact Or.inl ⟨u', l', w', g0, b, h1, h2, Or.inl h3, h4, h5⟩
    · by_cases c : b < a
      · exact Or.inl ⟨u', l', w', g0, b, h1, h2, Or.inr ⟨e, c⟩, h4, h5⟩
      · have eb : b = a := by omega
        subst eb
        have b1 := rr_b hm n h1
        have := hv g0 ⟨u', l', w', h1, e.symm⟩
        obtain ⟨rfl, rfl, rfl⟩ := sx_ne b1.2.1 b1.2.2.1 b1.1.1 b0.1.1 b0.2.1 b0.2.2.1 e
        exact Or.inr ⟨by rw [h4, ht], by omega⟩
  exact ⟨FB_up H.1 htb hT cov hB, Fm_up H.2 hT (fun t' g' hd => (cov t' g' hd).imp id (fun z => z.2))⟩
end GoS2
section GoF
variable {scL : Nat} {scX : Nat → Int} {d N : Nat} {fi : tF} {fr : tR} {al : tL} {P : ot} {m : Int} {n : Nat} {Z : Int → Int → Int → Int → Prop}
def LgF (q s m mo0 mo w l u o : Int) (x12 : Option av) : List (Option av) := [some (.inr (.inl (some 54))), some (.inl q), some (.inl s), some (.inl m), some (.inl mo0), some (.inl mo), some (.inl w), some (.inl l), some (.inl u), some (.inl 1), some (.inl 0), some (.inl o), x12]
/-- behind grinds -/
theorem gf_t {q s mo0 mo w l u o v : Int} {a f : tF} {t : Nat} (hvb : -1000 ≤ v ∧ v ≤ 1000) (hmo : -1 ≤ mo ∧ mo ≤ 1000) (h40 : f 54 40 = (t : Int)) (htb : t < 21853) (hB : -1 ≤ a 126 t ∧ a 126 t ≤ 1000)
    (hk : Rc 1 (Call 1 scL scX d) (mt 202) P N scL scX 49 (LgF q s m mo0 (mX mo v) w l u (o + 1) (some (.inl v))) [] N f (rF fr) (rA (up2 a 126 t (mX (a 126 t) v))) al) :
    Rc 1 (Call 1 scL scX d) (mt 202) P N scL scX 106 (LgF q s m mo0 mo w l u o (some (.inl v))) [] N f (rF fr) (rA a) al := by
  rw [← rA_up (by decide) (by decide)] at hk
  have it : inb (f 54 40) 21853 := ⟨by omega, by rw [h40]; show (t : Int) < 21853; omega⟩
  have et : (f 54 40).toNat = t := by omega
  have rB : rg (a 126 (f 54 40).toNat) := by rw [et]; exact rg_sm (by omega) (by omega)
  have rv : rg v := rg_sm (by omega) (by omega)
  have rm : rg mo := rg_sm (by omega) (by omega)
  rw [← et] at hk
  have last : ∀ z, z = mX (a 126 (f 54 40).toNat) v → Rc 1 (Call 1 scL scX d) (mt 202) P N scL scX 143 (LgF q s m mo0 mo w l u o (some (.inl v))) [] N f (rF fr) (up2 (rA a) 126 (f 54 40).toNat z) al := fun z hz => by
    subst hz
    refine rc_go [49] 30 ?_
    refine And.intro ⟨rv, rm⟩ (And.intro (fun h => ?_) (fun h => ?_))
    · have h : v ≤ mo := h
      have e : mX mo v = mo := by unfold mX; rw [if_neg (by omega)]
      rw [e] at hk
      exact hk
    · have h : ¬ v ≤ mo := h
      have e : mX mo v = v := by unfold mX; rw [if_pos (by omega)]
      rw [e] at hk
      exact hk
  refine rc_go [143] 30 ?_
  refine And.intro it (And.intro ⟨rv, rB⟩ (And.intro (fun h => ?_) (fun h => ?_)))
  · have h : v ≤ a 126 (f 54 40).toNat := h
    refine And.intro it (And.intro it ?_)
    exact last (a 126 (f 54 40).toNat) (by unfold mX; rw [if_neg (by omega)])
  · have h : ¬ v ≤ a 126 (f 54 40).toNat := h
    refine And.intro it ?_
    exact last v (by unfold mX; rw [if_pos (by omega)])
theorem gf_l (hn : n < 96) (hm : m = 0 ∨ m = 1) {u l w v mo0 : Int} (hr : rr m n u l w v) (hv : ∀ g, tK m sx n (sx u l w) g → g ≤ v) {f0 a0 : tF} (e127 : a0 127 (sx u l w) = v) (f37 : f0 54 37 = 1 - m) (f38 : f0 54 38 = m) (f39 : f0 54 39 = 40)
    (hP : ∀ f a mo, (∀ o, o ≠ 54 → f o = f0 o) → (∀ k, k ≠ 40 → f 54 k = f0 54 k) → (∀ o, o ≠ 126 → a o = a0 o) → gR m n (sx u l w) Z 4 (a 126) mo → P (.inl (some (.inl mo))) f (rF fr) (rA a) al) :
    ∀ (k b : Nat) (f a : tF) (mo : Int) (x12 : Option av), b + k = 4 → (∀ o, o ≠ 54 → f o = f0 o) → (∀ k, k ≠ 40 → f 54 k = f0 54 k) → (∀ o, o ≠ 126 → a o = a0 o) → gR m n (sx u l w) Z b (a 126) mo → Rc 1 (Call 1 scL scX (d + 3)) (mt 202) P N scL scX 49 (LgF n (sx u l w : Nat) m mo0 mo w l u b x12) [] N f (rF fr) (rA a) al := by
  obtain ⟨b1, b2, b3, b4⟩ := rr_b hm n hr
  have bX := gX_b b1
  have bY := gY_b b2 b3
  have sb : sx u l w < 21853 := by unfold sx; omega
  have is : inb ((sx u l w : Nat) : Int) 21853 := ⟨by omega, by show ((sx u l w : Nat) : Int) < 21853; omega⟩
  intro k
  induction k with
  | zero =>
    intro b f a mo x12 hk h1 h2 h3 H
    have e : b = 4 := by omega
    subst e
    refine rc_go [] 20 ?_
    refine And.intro (fun h => absurd h (by decide)) (fun _ => And.intro ⟨by decide, by decide⟩ (And.intro ⟨by decide, by decide⟩ ?_))
    refine And.intro ⟨⟨by decide, by decide⟩, ⟨by decide, by decide⟩⟩ (And.intro (fun _ => ?_) (fun h => absurd (by decide : (3 : Int) < 4) h))
    exact And.intro rfl (hP f a mo h1 h2 h3 H)
  | succ k ih =>
    intro b f a mo x12 hk h1 h2 h3 H
    have ha : 0 ≤ (b : Int) ∧ (b : Int) ≤ 3 := ⟨by omega, by omega⟩
    have bn := gn_b hm ha bX bY
    have m1 := gM_b (au_b (m := m) ha) bX
    have m2 := gM_b (al_b (m := m) ha) bY
    have bm := Fm_b hm H.2 (by omega)
    have ea : a 127 (sx u l w) = v := by rw [h3 127 (by decide)]; exact e127
    obtain ⟨t, ht⟩ : ∃ t, t = sx (gX u - gM (aU m b) (gX u)) (gY l w - gM (aL m b) (gY l w)) (gM (aU m b) (gX u)) := ⟨_, rfl⟩
    have tb : t < 21853 := by rw [ht]; unfold sx; omega
    have et : gS (gX u) (gY l w) (gM (aU m b) (gX u)) (gM (aL m b) (gY l w)) = (t : Int) := by rw [ht]; unfold gS sx; omega
    have bB := FB_b hm H.1 (by omega) t tb
    have key := fun x12 => ih (b + 1) (up2 f 54 40 (t : Int)) (up2 a 126 t (mX (a 126 t) (v + gn m b (gX u) (gY l w)))) (mX mo (v + gn m b (gX u) (gY l w))) x12 (by omega) (fun o ho => by rw [up2_row ho]; exact h1 o ho) (fun k hk => by rw [up2_if, if_neg (fun z => hk z.2)]; exact h2 k hk) (fun o ho => by rw [up2_row ho]; exact h3 o ho) (gR_s hm hr hv ha rfl ht tb (fun k => up2_k k) H)
    have tl : Rc 1 (Call 1 scL scX (d + 3)) (mt 202) P N scL scX 106 (LgF n (sx u l w : Nat) m mo0 mo w l u b (some (.inl (a 127 (sx u l w) + gn m b (gX u) (gY l w))))) [] N (up2 f 54 40 (t : Int)) (rF fr) (rA a) al := by
      rw [ea]
      exact gf_t (by omega) (by omega) rfl tb (by omega) (key _)
    refine rc_go [106] 40 ?_
    refine And.intro (fun h => absurd h (by decide)) (fun _ => And.intro ⟨by decide, by decide⟩ (And.intro ⟨by decide, by decide⟩ ?_))
    refine And.intro ⟨rg_sm (by omega) (by omega), ⟨by decide, by decide⟩⟩ (And.intro (fun h => absurd (show (3 : Int) < (b : Int) from h) (by omega)) (fun _ => ?_))
    refine And.intro is ?_
    rw [← et] at tl
    rcases hm with rfl | rfl
    · refine And.intro (fun h => absurd rfl h) (fun _ => ?_)
      refine And.intro (fun h => absurd rfl h) (fun _ => ?_)
      refine Exists.intro N (And.intro ⟨Nat.le_refl _, Nat.le_refl _⟩ (c_grinds (d := d) (a := (b : Int)) (b := 0) (wA := 1 - 0) (wB := 0) (mk := 40) (by omega) (by omega) b1 b2 b3 ha (by decide) (by decide) (by rw [h2 37 (by decide)]; exact f37) (by rw [h2 38 (by decide)]; exact f38) (by rw [h2 39 (by decide)]; exact f39) ?_))
      exact tl
    · refine And.intro (fun _ => And.intro ⟨by decide, by decide⟩ (And.intro ⟨by decide, by decide⟩ ?_)) (fun h => absurd h (by decide))
      refine And.intro (fun _ => And.intro ⟨by decide, by decide⟩ (And.intro ⟨by decide, by decide⟩ ?_)) (fun h => absurd h (by decide))
      refine Exists.intro N (And.intro ⟨Nat.le_refl _, Nat.le_refl _⟩ (c_grinds (d := d) (a := 0) (b := (b : Int)) (wA := 1 - 1) (wB := 1) (mk := 40) (by omega) (by omega) b1 b2 b3 (by decide) ha (by decide) (by rw [h2 37 (by decide)]; exact f37) (by rw [h2 38 (by decide)]; exact f38) (by rw [h2 39 (by decide)]; exact f39) ?_))
      exact tl
theorem gf_h {q s mo0 w l u : Int} {ai : tF} (hm : m = 0 ∨ m = 1) (hq : 0 ≤ q ∧ q < 96) (hs : 0 ≤ s ∧ s ≤ 21853) (ew : s.tmod 13 = w) (el : (s.tdiv 13).tmod 41 = l) (eu : (s.tdiv 13).tdiv 41 = u) (hz : ∀ k, ai 80 k = 0) (hz2 : ∀ k, ai 81 k = 0)
    (hk : Rc 1 (Call 1 scL scX (d + 3)) (mt 202) P N scL scX 49 (LgF q s m mo0 mo0 w l u 0 none) [] N fi (rF fr) (rA ai) al) :
    Call 1 scL scX (d + 4) 202 [.inr (.inl (some 54)), .inl q, .inl s, .inl m, .inl mo0] N fi (rF fr) (rA ai) al N P := by
  have dv : 0 ≤ s.tdiv 13 ∧ s.tdiv 13 ≤ 21853 := by
    rw [Int.tdiv_eq_ediv_of_nonneg hs.1]
    omega
  have ob : Call 1 scL scX (d + 3) 145 [.inr (.inl (some 54)), .inl (1 - m), .inl q] N fi (rF fr) (rA ai) al N (fun o fi' fr' ai' al' => o = .inl (some (.inl 0)) ∧ fi' = fi ∧ fr' = rF fr ∧ ai' = rA ai ∧ al' = al) := by
    refine c_openBy (m := 1 - m) (by omega) hq.1 hq.2 ⟨?_, rfl, rfl, rfl, rfl⟩
    rcases hm with rfl | rfl
    · rw [show ai (80 + (1 - 0 : Int).toNat) q.toNat = 0 from hz2 _]
    · rw [show ai (80 + (1 - 1 : Int).toNat) q.toNat = 0 from hz _]
  subst ew
  subst el
  subst eu
  have r13 : rg 13 := ⟨by decide, by decide⟩
  have r41 : rg 41 := ⟨by decide, by decide⟩
  have rs : rg s := rg_sm (by omega) (by omega)
  have rd : rg (s.tdiv 13) := rg_sm (by omega) (by omega)
  refine ⟨⟨Nat.le_refl _, rfl⟩, rc_go [49] 60 ?_⟩
  refine And.intro ⟨rs, r13, by decide⟩ (And.intro ⟨rs, r13, by decide⟩ (And.intro ⟨rd, r41, by decide⟩ ?_))
  refine And.intro ⟨rs, r13, by decide⟩ (And.intro ⟨rd, r41, by decide⟩ ?_)
  refine Exists.intro N (And.intro ⟨Nat.le_refl _, Nat.le_refl _⟩ (c_mayOpen (d := d + 1) (m := m) hm hq.1 hq.2 ?_))
  refine Exists.intro N (And.intro ⟨Nat.le_refl _, Nat.le_refl _⟩ (Call_mono _ _ _ _ _ _ _ _ _ _ _ _ _ _ (fun o fi' fr' ai' al' hx => ?_) ob))
  obtain ⟨rfl, rfl, rfl, rfl, rfl⟩ := hx
  exact hk
end GoF
