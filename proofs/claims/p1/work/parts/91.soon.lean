/-! soonest: what can have been ground, as a relation; both sides keep its greatest by key -/
def aU (m a : Int) : Int := if m = 0 then a else 0
def aL (m a : Int) : Int := if m = 0 then 0 else a
/-- what a quarter gives by an opening -/
def gn (m a X Y : Int) : Int := gV (1 - m) m 40 X Y (gM (aU m a) X) (gM (aL m a) Y)
def rr (m : Int) : Nat → Int → Int → Int → Int → Prop
  | 0, u, l, w, g => u = 10 ∧ l = 10 ∧ w = 0 ∧ g = 0
  | n + 1, u', l', w', g' => ∃ u l w g a, rr m n u l w g ∧ (0 ≤ a ∧ a ≤ 3) ∧ u' = gX u - gM (aU m a) (gX u) ∧ l' = gY l w - gM (aL m a) (gY l w) ∧ w' = gM (aU m a) (gX u) ∧ g' = g + gn m a (gX u) (gY l w)
theorem au_b {m a : Int} (ha : 0 ≤ a ∧ a ≤ 3) : 0 ≤ aU m a ∧ aU m a ≤ 3 := by unfold aU; split <;> omega
theorem al_b {m a : Int} (ha : 0 ≤ a ∧ a ≤ 3) : 0 ≤ aL m a ∧ aL m a ≤ 3 := by unfold aL; split <;> omega
theorem gn_b {m a X Y : Int} (hm : m = 0 ∨ m = 1) (ha : 0 ≤ a ∧ a ≤ 3) (hX : 0 ≤ X ∧ X ≤ 20) (hY : 0 ≤ Y ∧ Y ≤ 20) : 0 ≤ gn m a X Y ∧ gn m a X Y ≤ 3 := by
  have b1 := gM_b (au_b (m := m) ha) hX
  have b2 := gM_b (al_b (m := m) ha) hY
  unfold gn gV
  revert b1 b2
  generalize gM (aU m a) X = x
  generalize gM (aL m a) Y = y
  intro b1 b2
  rcases hm with rfl | rfl
  · have e1 : (1 - 0) * x = x := by omega
    have e2 : 0 * y = 0 := by omega
    rw [e1, e2]
    split <;> split <;> omega
  · have e1 : (1 - 1) * x = 0 := by omega
    have e2 : 1 * y = y := by omega
    rw [e1, e2]
    split <;> split <;> omega
theorem rr_b {m : Int} (hm : m = 0 ∨ m = 1) : ∀ (n : Nat) {u l w g : Int}, rr m n u l w g → (0 ≤ u ∧ u ≤ 20) ∧ (0 ≤ l ∧ l ≤ 20) ∧ (0 ≤ w ∧ w ≤ 3) ∧ 0 ≤ g ∧ g ≤ 3 * (n : Int)
  | 0, u, l, w, g, h => by
    obtain ⟨rfl, rfl, rfl, rfl⟩ := h
    decide
  | n + 1, u', l', w', g', h => by
    obtain ⟨u, l, w, g, a, h, ha, rfl, rfl, rfl, rfl⟩ := h
    obtain ⟨b1, b2, b3, b4⟩ := rr_b hm n h
    have bX := gX_b b1
    have bY := gY_b b2 b3
    have m1 := gM_b (au_b (m := m) ha) bX
    have m2 := gM_b (al_b (m := m) ha) bY
    have m3 := gn_b hm ha bX bY
    omega
/-- by key -/
def tK (m : Int) (key : Int → Int → Int → Nat) (n : Nat) (t : Nat) (g : Int) : Prop := ∃ u l w, rr m n u l w g ∧ t = key u l w
/-- reached from the states (and by the openings) of Z -/
def dK (m : Int) (key : Int → Int → Int → Nat) (n : Nat) (Z : Int → Int → Int → Int → Prop) (t : Nat) (g : Int) : Prop := ∃ u l w g0 a, rr m n u l w g0 ∧ (0 ≤ a ∧ a ≤ 3) ∧ Z u l w a ∧ t = key (gX u - gM (aU m a) (gX u)) (gY l w - gM (aL m a) (gY l w)) (gM (aU m a) (gX u)) ∧ g = g0 + gn m a (gX u) (gY l w)
theorem tK_b {m : Int} (hm : m = 0 ∨ m = 1) {key : Int → Int → Int → Nat} {n t : Nat} {g : Int} (h : tK m key n t g) : 0 ≤ g ∧ g ≤ 3 * (n : Int) := by
  obtain ⟨u, l, w, h, -⟩ := h
  exact (rr_b hm n h).2.2.2
theorem tK_d {m : Int} {key : Int → Int → Int → Nat} {n t : Nat} {g : Int} (h : tK m key (n + 1) t g) : dK m key n (fun _ _ _ _ => True) t g := by
  obtain ⟨u', l', w', h, rfl⟩ := h
  obtain ⟨u, l, w, g, a, h, ha, rfl, rfl, rfl, rfl⟩ := h
  exact ⟨u, l, w, g, a, h, ha, trivial, rfl, rfl⟩
theorem dK_t {m : Int} {key : Int → Int → Int → Nat} {n t : Nat} {g : Int} {Z : Int → Int → Int → Int → Prop} (h : dK m key n Z t g) : tK m key (n + 1) t g := by
  obtain ⟨u, l, w, g, a, h, ha, -, rfl, rfl⟩ := h
  exact ⟨_, _, _, ⟨u, l, w, g, a, h, ha, rfl, rfl, rfl, rfl⟩, rfl⟩
/-- a row of the greatest so far, and one number -/
def FB (nb : Nat) (T D : Nat → Int → Prop) (B : Nat → Int) : Prop := (∀ t, t < nb → B t = -1 ∨ T t (B t)) ∧ ∀ t g, D t g → g ≤ B t
def Fm (T D : Nat → Int → Prop) (mo : Int) : Prop := (mo = -1 ∨ ∃ t, T t mo) ∧ ∀ t g, D t g → g ≤ mo
def mX (a b : Int) : Int := if a < b then b else a
theorem mX_l {a b : Int} : a ≤ mX a b ∧ b ≤ mX a b ∧ (mX a b = a ∨ mX a b = b) := by unfold mX; split <;> omega
theorem FB_up {nb : Nat} {T D D' : Nat → Int → Prop} {B B' : Nat → Int} {t : Nat} {g : Int} (H : FB nb T D B) (htb : t < nb) (ht : T t g) (hD : ∀ t' g', D' t' g' → D t' g' ∨ (t' = t ∧ g' ≤ g)) (hB : ∀ k, B' k = if k = t then mX (B t) g else B k) : FB nb T D' B' := by
  have x := mX_l (a := B t) (b := g)
  refine ⟨fun k hkb => ?_, fun k y hy => ?_⟩
  · rw [hB k]
    by_cases c : k = t
    · rw [if_pos c, c]
      rcases x.2.2 with e | e
      · rw [e]; exact H.1 t htb
      · rw [e]; exact Or.inr ht
    · rw [if_neg c]; exact H.1 k hkb
  · rw [hB k]
    rcases hD k y hy with h | ⟨h1, h2⟩
    · have := H.2 k y h
      by_cases c : k = t
      · rw [if_pos c]
        rw [c] at this
        omega
      · rw [if_neg c]; exact this
    · rw [if_pos h1]
      omega
theorem Fm_up {T D D' : Nat → Int → Prop} {mo : Int} {t : Nat} {g : Int} (H : Fm T D mo) (ht : T t g) (hD : ∀ t' g', D' t' g' → D t' g' ∨ g' ≤ g) : Fm T D' (mX mo g) := by
  have x := mX_l (a := mo) (b := g)
  refine ⟨?_, fun k y hy => ?_⟩
  · rcases x.2.2 with e | e
    · rw [e]; exact H.1
    · rw [e]; exact Or.inr ⟨t, ht⟩
  · rcases hD k y hy with h | h
    · have := H.2 k y h; omega
    · omega
theorem Fm_or {T D D1 D2 : Nat → Int → Prop} {a b : Int} (h1 : Fm T D1 a) (h2 : Fm T D2 b) (hD : ∀ t g, D t g → D1 t g ∨ D2 t g) : Fm T D (mX a b) := by
  have x := mX_l (a := a) (b := b)
  refine ⟨?_, fun k y hy => ?_⟩
  · rcases x.2.2 with e | e
    · rw [e]; exact h1.1
    · rw [e]; exact h2.1
  · rcases hD k y hy with h | h
    · have := h1.2 k y h; omega
    · have := h2.2 k y h; omega
theorem FB_D {nb : Nat} {T D D' : Nat → Int → Prop} {B : Nat → Int} (H : FB nb T D B) (h : ∀ t g, D' t g → D t g) : FB nb T D' B := ⟨H.1, fun t g z => H.2 t g (h t g z)⟩
theorem Fm_D {T D D' : Nat → Int → Prop} {mo : Int} (H : Fm T D mo) (h : ∀ t g, D' t g → D t g) : Fm T D' mo := ⟨H.1, fun t g z => H.2 t g (h t g z)⟩
/-- the greatest is the same by whatever key -/
theorem Fm_eq {m : Int} (hm : m = 0 ∨ m = 1) {k1 k2 : Int → Int → Int → Nat} {n : Nat} {a b : Int} (h1 : Fm (tK m k1 n) (tK m k1 n) a) (h2 : Fm (tK m k2 n) (tK m k2 n) b) : a = b := by
  have c : ∀ (k1 k2 : Int → Int → Int → Nat) (a b : Int), Fm (tK m k1 n) (tK m k1 n) a → Fm (tK m k2 n) (tK m k2 n) b → a ≤ b ∨ a = -1 := fun k1 k2 a b h1 h2 => by
    rcases h1.1 with e | ⟨t, u, l, w, hr, ht⟩
    · exact Or.inr e
    · exact Or.inl (h2.2 _ a ⟨u, l, w, hr, rfl⟩)
  have nb : ∀ (k1 : Int → Int → Int → Nat) (a : Int), Fm (tK m k1 n) (tK m k1 n) a → a = -1 ∨ 0 ≤ a := fun k1 a h1 => by
    rcases h1.1 with e | ⟨t, ht⟩
    · exact Or.inl e
    · exact Or.inr (tK_b hm ht).1
  have c1 := c k1 k2 a b h1 h2
  have c2 := c k2 k1 b a h2 h1
  have n1 := nb k1 a h1
  have n2 := nb k2 b h2
  omega
theorem FB_b {m : Int} (hm : m = 0 ∨ m = 1) {key : Int → Int → Int → Nat} {n : Nat} {D : Nat → Int → Prop} {B : Nat → Int} {nb : Nat} (H : FB nb (tK m key n) D B) (hn : n ≤ 96) (t : Nat) (ht : t < nb) : -1 ≤ B t ∧ B t ≤ 300 := by
  rcases H.1 t ht with e | e
  · omega
  · have := tK_b hm e; omega
theorem Fm_b {m : Int} (hm : m = 0 ∨ m = 1) {key : Int → Int → Int → Nat} {n : Nat} {D : Nat → Int → Prop} {b : Int} (H : Fm (tK m key n) D b) (hn : n ≤ 96) : -1 ≤ b ∧ b ≤ 300 := by
  rcases H.1 with e | ⟨t, e⟩
  · omega
  · have := tK_b hm e; omega
/-- the class's key -/
def kc (n : Nat) (u l w : Int) : Nat := (gC 20 (u + (if n < 96 then 2 else 0)) * 21 + gY l w).toNat
theorem kc_gX {n : Nat} (hn : n < 96) {u l w : Int} : kc n u l w = (gX u * 21 + gY l w).toNat := by
  unfold kc gX gC
  rw [if_pos hn]
  congr 2
  by_cases h : u + 2 < 20
  · rw [if_pos h, if_neg (by omega)]
  · rw [if_neg h]
    by_cases h2 : 20 < u + 2
    · rw [if_pos h2]
    · rw [if_neg h2]
      have : u + 2 = 20 := by omega
      rw [this]
