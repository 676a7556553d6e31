/-! soonest: goOn keeps the greatest -/
theorem gV_c {m U L x y : Int} (hm : m = 0 ∨ m = 1) (hL : L ≤ 20) : gV (1 - m) m 40 U L x y = x * (if U < 5 then 0 else 1 - m) + y * (if L < 5 then 0 else m) := by
  unfold gV gB
  rw [if_pos (show L ≤ 40 by omega), Int.sub_zero]
  rcases hm with rfl | rfl
  · by_cases h1 : U < 5 <;> by_cases h2 : L < 5 <;> simp [h1, h2]
  · by_cases h1 : U < 5 <;> by_cases h2 : L < 5 <;> simp [h1, h2]
theorem kc_t {n : Nat} {U L x y : Int} : ((if 20 < U - x + cmB (n : Int) then 20 else U - x + cmB (n : Int)) * 21 + (if 20 < L - y + x then 20 else L - y + x)).toNat = kc (n + 1) (U - x) (L - y) x := by
  have e1 : (if 20 < L - y + x then 20 else L - y + x) = gY (L - y) x := by
    unfold gY
    by_cases h : 20 < L - y + x
    · rw [if_pos h, if_neg (by omega)]
    · rw [if_neg h]
      by_cases h2 : L - y + x < 20
      · rw [if_pos h2]
      · rw [if_neg h2]; omega
  have e2 : cmB (n : Int) = if n + 1 < 96 then 2 else 0 := by
    unfold cmB
    by_cases h : n + 1 < 96
    · rw [if_pos h, if_pos (by omega)]
    · rw [if_neg h, if_neg (by omega)]
  rw [e1, e2]
  rfl
theorem kc_inj {n : Nat} (hn : n < 96) {u l w U L : Int} (hu : 0 ≤ u ∧ u ≤ 20) (hl : 0 ≤ l ∧ l ≤ 20) (hw : 0 ≤ w ∧ w ≤ 3) (hU : 0 ≤ U ∧ U ≤ 20) (hL : 0 ≤ L ∧ L ≤ 20) (h : (U * 21 + L).toNat = kc n u l w) : gX u = U ∧ gY l w = L := by
  rw [kc_gX hn] at h
  have bX := gX_b hu
  have bY := gY_b hl hw
  omega
section GoS
variable {m : Int} {n : Nat} {U L : Int} {Z : Int → Int → Int → Int → Prop}
/-- a openings of a place are done -/
def gA (m : Int) (n : Nat) (U L : Int) (Z : Int → Int → Int → Int → Prop) (a : Int) (B : Nat → Int) (mo : Int) : Prop := FB 1681 (tK m (kc (n + 1)) (n + 1)) (dK m (kc (n + 1)) n (fun u l w b => Z u l w b ∨ ((gX u = U ∧ gY l w = L) ∧ b < a))) B ∧ Fm (tK m (kc (n + 1)) (n + 1)) (dK m (kc (n + 1)) n (fun u l w b => (gX u = U ∧ gY l w = L) ∧ b < a)) mo
theorem gA_s {u0 l0 w0 v a x y g : Int} {t : Nat} {B B' : Nat → Int} {mo : Int} (hr : rr m n u0 l0 w0 v) (eU : gX u0 = U) (eL : gY l0 w0 = L) (hv : ∀ u l w g, rr m n u l w g → gX u = U → gY l w = L → g ≤ v) (ha : 0 ≤ a ∧ a ≤ 3) (hx : x = gM (aU m a) U) (hy : y = gM (aL m a) L) (hg : g = v + gn m a U L) (ht : t = kc (n + 1) (U - x) (L - y) x) (htb : t < 1681) (hB : ∀ k, B' k = if k = t then mX (B t) g else B k) (H : gA m n U L Z a B mo) : gA m n U L Z (a + 1) B' (mX mo g) := by
  subst eU
  subst eL
  have hT : tK m (kc (n + 1)) (n + 1) t g := by
    rw [hg]
    exact ⟨_, _, _, ⟨u0, l0, w0, v, a, hr, ha, rfl, rfl, rfl, rfl⟩, by rw [ht, hx, hy]⟩
  refine ⟨FB_up H.1 htb hT (fun t' g' hd => ?_) hB, Fm_up H.2 hT (fun t' g' hd => ?_)⟩
  · obtain ⟨u, l, w, g0, b, h1, h2, h3, h4, h5⟩ := hd
    rcases h3 with h3 | ⟨⟨e1, e2⟩, h3⟩
    · exact Or.inl ⟨u, l, w, g0, b, h1, h2, Or.inl h3, h4, h5⟩
    · by_cases c : b < a
      · exact Or.inl ⟨u, l, w, g0, b, h1, h2, Or.inr ⟨⟨e1, e2⟩, c⟩, h4, h5⟩
      · have e : b = a := by omega
        subst e
        have := hv u l w g0 h1 e1 e2
        rw [e1, e2] at h4 h5
        refine Or.inr ⟨by rw [h4, ht, hx, hy], by omega⟩
  · obtain ⟨u, l, w, g0, b, h1, h2, ⟨⟨e1, e2⟩, h3⟩, h4, h5⟩ := hd
    by_cases c : b < a
    · exact Or.inl ⟨u, l, w, g0, b, h1, h2, ⟨⟨e1, e2⟩, c⟩, h4, h5⟩
    · have e : b = a := by omega
      subst e
      have := hv u l w g0 h1 e1 e2
      rw [e1, e2] at h5
      exact Or.inr (by omega)
end GoS
section GoOn2
variable {scL : Nat} {scX : Nat → Int} {d : Nat} {fi : tF} {fr : tR} {al : tL} {P : ot} {nr fa : Nat}
variable {m : Int} {n : Nat} {U L : Int} {Z : Int → Int → Int → Int → Prop}
theorem up2_k {a : tF} {o t : Nat} {b : Int} (k : Nat) : up2 a o t b o k = if k = t then b else a o k := by
  rw [up2_if]
  by_cases h : k = t
  · rw [if_pos h, if_pos ⟨rfl, h⟩]
  · rw [if_neg h, if_neg (fun z => h z.2)]
/-- one opening -/
theorem go_1 (hnf : nfo nr fa) (hn : n < 96) (hm : m = 0 ∨ m = 1) (hw : fi 233 13 = 21) (hU : 0 ≤ U ∧ U ≤ 20) (hL : 0 ≤ L ∧ L ≤ 20) {u0 l0 w0 v : Int} (hr : rr m n u0 l0 w0 v) (eU : gX u0 = U) (eL : gY l0 w0 = L) (hv : ∀ u l w g, rr m n u l w g → gX u = U → gY l w = L → g ≤ v) {a p o x : Int} {ai : tF} {mo : Int} (ha : 0 ≤ a ∧ a ≤ 3) (hp : p = aL m a) (ho : o = aU m a) (hx : x = if U < o * 1 then U else o * 1) (hpw : p ≤ ai 238 (96 + (n : Int)).toNat) (hpb : ai 238 (96 + (n : Int)).toNat ≤ 3) (H : gA m n U L Z a (ai fa) mo) {x13 x14 x15 : Option av}
    (hk : ∀ ai' mo' y13 y14 y15, (∀ o, o ≠ fa → ai' o = ai o) → gA m n U L Z (a + 1) (ai' fa) mo' → Rc 1 (Call 1 scL scX (d + 1)) (mt 51) P 244 scL scX 156 (LgO n U L v (if U < 5 then 0 else 1 - m) (if L < 5 then 0 else m) (cmB n) mo' o (some (.inl x)) (some (.inl (if 20 < U - x + cmB n then 20 else U - x + cmB n))) (some (.inl (p + 1))) y13 y14 y15) [] 244 fi (cF nr fa fr) (cA ai') al) :
    Rc 1 (Call 1 scL scX (d + 1)) (mt 51) P 244 scL scX 156 (LgO n U L v (if U < 5 then 0 else 1 - m) (if L < 5 then 0 else m) (cmB n) mo o (some (.inl x)) (some (.inl (if 20 < U - x + cmB n then 20 else U - x + cmB n))) (some (.inl p)) x13 x14 x15) [] 244 fi (cF nr fa fr) (cA ai) al := by
  have hx2 : x = gM (aU m a) U := by rw [hx, ho]; exact gM_min
  have bx := gM_b (au_b (m := m) ha) hU
  have bp := al_b (m := m) ha
  have bc := cmB_b (q := (n : Int))
  have bn := gn_b hm ha hU hL
  have bv := (rr_b hm n hr).2.2.2
  have hg : v + x * (if U < 5 then 0 else 1 - m) + (gM (aL m a) L) * (if L < 5 then 0 else m) = v + gn m a U L := by
    unfold gn
    rw [gV_c hm hL.2, ← hx2]
    omega
  have by2 := gM_b (al_b (m := m) ha) hL
  have tb : ((if 20 < U - x + cmB (n : Int) then 20 else U - x + cmB (n : Int)) * 21 + (if 20 < L - gM (aL m a) L + x then 20 else L - gM (aL m a) L + x)).toNat < 1681 := by
    split <;> split <;> omega
  refine go_b hnf hw ⟨by omega, by omega⟩ hL ⟨by omega, by omega⟩ (by split <;> omega) (by omega) hpw hpb (y := gM (aL m a) L) (by rw [hp]; exact gM_min.symm) rfl rfl (by rw [hg]; omega) ?_ ?_ (fun z => ?_)
  · have := FB_b hm H.1 (by omega) ((if 20 < U - x + cmB (n : Int) then 20 else U - x + cmB (n : Int)) * 21 + (if 20 < L - gM (aL m a) L + x then 20 else L - gM (aL m a) L + x)).toNat tb
    omega
  · have := Fm_b hm H.2 (by omega)
    omega
  · rw [hg]
    exact hk _ _ _ _ _ (fun o' ho' => up2_row ho') (gA_s hr eU eL hv ha hx2 rfl rfl kc_t tb (fun k => up2_k k) H)
theorem go_0 (hnf : nfo nr fa) (hn : n < 96) (hw : fi 233 13 = 21) (hU : 0 ≤ U ∧ U ≤ 20) (hL : 0 ≤ L ∧ L ≤ 20) {u0 l0 w0 v : Int} (hr : rr 0 n u0 l0 w0 v) (eU : gX u0 = U) (eL : gY l0 w0 = L) (hv : ∀ u l w g, rr 0 n u l w g → gX u = U → gY l w = L → g ≤ v) {a0 : tF} (h8 : a0 238 (n : Int).toNat = 3) (h7 : a0 237 (96 + (n : Int)).toNat = 0) (h8b : a0 238 (96 + (n : Int)).toNat = 0)
    (hP : ∀ ai' mo, (∀ o, o ≠ fa → ai' o = a0 o) → gA 0 n U L Z 4 (ai' fa) mo → P (.inl (some (.inl mo))) fi (cF nr fa fr) (cA ai') al) :
    ∀ (k a : Nat) (ai : tF) (mo : Int) (x10 x11 x12 x13 x14 x15 : Option av), a + k = 4 → (∀ o, o ≠ fa → ai o = a0 o) → gA 0 n U L Z a (ai fa) mo → Rc 1 (Call 1 scL scX (d + 1)) (mt 51) P 244 scL scX 95 (LgO n U L v (if U < 5 then 0 else 1 - 0) (if L < 5 then 0 else 0) (cmB n) mo a x10 x11 x12 x13 x14 x15) [] 244 fi (cF nr fa fr) (cA ai) al := by
  have f7 : (237 : Nat) ≠ fa := by rcases hnf with ⟨-, rfl⟩ | ⟨-, rfl⟩ <;> decide
  have f8 : (238 : Nat) ≠ fa := by rcases hnf with ⟨-, rfl⟩ | ⟨-, rfl⟩ <;> decide
  have bc := cmB_b (q := (n : Int))
  intro k
  induction k with
  | zero =>
    intro a ai mo x10 x11 x12 x13 x14 x15 hk hai H
    have e : a = 4 := by omega
    subst e
    exact go_e ⟨by omega, by omega⟩ (by decide) (by rw [hai 238 f8, h8]; decide) (by rw [hai 238 f8, h8]; decide) (hP ai mo hai H)
  | succ k ih =>
    intro a ai mo x10 x11 x12 x13 x14 x15 hk hai H
    refine go_o ⟨by omega, by omega⟩ hU bc ⟨by omega, by omega⟩ (by rw [hai 238 f8, h8]; omega) (by rw [hai 238 f8, h8]; decide) rfl rfl ?_
    rw [hai 237 f7, h7]
    refine go_1 hnf hn (Or.inl rfl) hw hU hL hr eU eL hv (a := (a : Int)) (p := 0) (o := (a : Int)) ⟨by omega, by omega⟩ rfl rfl rfl (by rw [hai 238 f8, h8b]; decide) (by rw [hai 238 f8, h8b]; decide) H (fun ai' mo' y13 y14 y15 g1 g2 => ?_)
    have g3 : ∀ o, o ≠ fa → ai' o = a0 o := fun o ho => (g1 o ho).trans (hai o ho)
    exact go_x ⟨by omega, by omega⟩ (by decide) (by rw [g3 238 f8, h8b]; decide) (by rw [g3 238 f8, h8b]; decide) (ih (a + 1) ai' mo' _ _ _ _ _ _ (by omega) g3 g2)
theorem go_2 (hnf : nfo nr fa) (hn : n < 96) (hw : fi 233 13 = 21) (hU : 0 ≤ U ∧ U ≤ 20) (hL : 0 ≤ L ∧ L ≤ 20) {u0 l0 w0 v : Int} (hr : rr 1 n u0 l0 w0 v) (eU : gX u0 = U) (eL : gY l0 w0 = L) (hv : ∀ u l w g, rr 1 n u l w g → gX u = U → gY l w = L → g ≤ v) {a0 : tF} (h8 : a0 238 (n : Int).toNat = 0) (h8b : a0 238 (96 + (n : Int)).toNat = 3) {x : Int} (hx : x = if U < 0 * 1 then U else 0 * 1)
    (hP : ∀ ai' mo, (∀ o, o ≠ fa → ai' o = a0 o) → gA 1 n U L Z 4 (ai' fa) mo → P (.inl (some (.inl mo))) fi (cF nr fa fr) (cA ai') al) :
    ∀ (k a : Nat) (ai : tF) (mo : Int) (x13 x14 x15 : Option av), a + k = 4 → (∀ o, o ≠ fa → ai o = a0 o) → gA 1 n U L Z a (ai fa) mo → Rc 1 (Call 1 scL scX (d + 1)) (mt 51) P 244 scL scX 156 (LgO n U L v (if U < 5 then 0 else 1 - 1) (if L < 5 then 0 else 1) (cmB n) mo 0 (some (.inl x)) (some (.inl (if 20 < U - x + cmB n then 20 else U - x + cmB n))) (some (.inl (a : Int))) x13 x14 x15) [] 244 fi (cF nr fa fr) (cA ai) al := by
  have f8 : (238 : Nat) ≠ fa := by rcases hnf with ⟨-, rfl⟩ | ⟨-, rfl⟩ <;> decide
  intro k
  induction k with
  | zero =>
    intro a ai mo x13 x14 x15 hk hai H
    have e : a = 4 := by omega
    subst e
    refine go_x ⟨by omega, by omega⟩ (by decide) (by rw [hai 238 f8, h8b]; decide) (by rw [hai 238 f8, h8b]; decide) ?_
    exact go_e ⟨by omega, by omega⟩ (by decide) (by rw [hai 238 f8, h8]; decide) (by rw [hai 238 f8, h8]; decide) (hP ai mo hai H)
  | succ k ih =>
    intro a ai mo x13 x14 x15 hk hai H
    refine go_1 hnf hn (Or.inr rfl) hw hU hL hr eU eL hv (a := (a : Int)) (p := (a : Int)) (o := 0) ⟨by omega, by omega⟩ rfl rfl hx (by rw [hai 238 f8, h8b]; omega) (by rw [hai 238 f8, h8b]; decide) H (fun ai' mo' y13 y14 y15 g1 g2 => ?_)
    exact ih (a + 1) ai' mo' _ _ _ (by omega) (fun o ho => (g1 o ho).trans (hai o ho)) g2
/-- the whole of goOn -/
theorem c_goOn {ai : tF} (hnf : nfo nr fa) (hn : n < 96) (hm : m = 0 ∨ m = 1) (hw : fi 233 13 = 21) (hmk : fi 233 10 = 40) (h11 : fi 233 11 = 1 - m) (h12 : fi 233 12 = m) (hU : 0 ≤ U ∧ U ≤ 20) (hL : 0 ≤ L ∧ L ≤ 20) (hF : rowF (oA m (fun _ => 0)) (oB m (fun _ => 0)) (nA1 m) (nB1 m) ai) (hS : FB 1681 (tK m (kc n) n) (tK m (kc n) n) (ai nr)) (hB : FB 1681 (tK m (kc (n + 1)) (n + 1)) (dK m (kc (n + 1)) n Z) (ai fa))
    (hP : ∀ ai' mo, (∀ o, o ≠ fa → ai' o = ai o) → FB 1681 (tK m (kc (n + 1)) (n + 1)) (dK m (kc (n + 1)) n (fun u l w b => Z u l w b ∨ (gX u = U ∧ gY l w = L))) (ai' fa) → Fm (tK m (kc (n + 1)) (n + 1)) (dK m (kc (n + 1)) n (fun u l w _ => gX u = U ∧ gY l w = L)) mo → P (.inl (some (.inl mo))) fi (cF nr fa fr) (cA ai') al) :
    Call 1 scL scX (d + 2) 51 [.inr (.inl (some 233)), .inl (n : Int), .inl U, .inl L] 244 fi (cF nr fa fr) (cA ai) al 244 P := by
  obtain ⟨r1, r2, r3, r4⟩ := hF (n : Int) (by omega) (by omega)
  have vb := FB_b hm hS (by omega) (U * 21 + L).toNat (by omega)
  have up : ∀ u l w g, rr m n u l w g → gX u = U → gY l w = L → g ≤ ai nr (U * 21 + L).toNat := fun u l w g h e1 e2 => hS.2 _ _ ⟨u, l, w, h, by rw [kc_gX hn, e1, e2]⟩
  refine go_h hnf hw hmk ⟨by omega, by omega⟩ hU hL rfl (by omega) (fun he => ?_) (fun h0 => ?_)
  · refine hP ai (-1) (fun _ _ => rfl) ⟨hB.1, fun t g hd => ?_⟩ ⟨Or.inl rfl, fun t g hd => ?_⟩
    · obtain ⟨u, l, w, g0, b, h1, h2, h3, h4⟩ := hd
      rcases h3 with h3 | ⟨e1, e2⟩
      · exact hB.2 t g ⟨u, l, w, g0, b, h1, h2, h3, h4⟩
      · have := up u l w g0 h1 e1 e2
        have := (rr_b hm n h1).2.2.2
        omega
    · obtain ⟨u, l, w, g0, b, h1, h2, ⟨e1, e2⟩, h4⟩ := hd
      have := up u l w g0 h1 e1 e2
      have := (rr_b hm n h1).2.2.2
      omega
  · rcases hS.1 (U * 21 + L).toNat (by omega) with e | ⟨u0, l0, w0, hr, hkey⟩
    · omega
    · obtain ⟨b1, b2, b3, b4⟩ := rr_b hm n hr
      obtain ⟨eU, eL⟩ := kc_inj hn b1 b2 b3 hU hL hkey
      have base : gA m n U L Z 0 (ai fa) (-1) := by
        refine ⟨FB_D hB (fun t g hd => ?_), ⟨Or.inl rfl, fun t g hd => ?_⟩⟩
        · obtain ⟨u, l, w, g0, b, h1, h2, h3, h4⟩ := hd
          rcases h3 with h3 | ⟨-, h3⟩
          · exact ⟨u, l, w, g0, b, h1, h2, h3, h4⟩
          · omega
        · obtain ⟨u, l, w, g0, b, h1, h2, ⟨-, h3⟩, h4⟩ := hd
          omega
      have fin : ∀ ai' mo, (∀ o, o ≠ fa → ai' o = ai o) → gA m n U L Z 4 (ai' fa) mo → P (.inl (some (.inl mo))) fi (cF nr fa fr) (cA ai') al := fun ai' mo g1 g2 => by
        refine hP ai' mo g1 (FB_D g2.1 (fun t g hd => ?_)) (Fm_D g2.2 (fun t g hd => ?_))
        · obtain ⟨u, l, w, g0, b, h1, h2, h3, h4⟩ := hd
          exact ⟨u, l, w, g0, b, h1, h2, h3.elim Or.inl (fun z => Or.inr ⟨z, by omega⟩), h4⟩
        · obtain ⟨u, l, w, g0, b, h1, h2, h3, h4⟩ := hd
          exact ⟨u, l, w, g0, b, h1, h2, ⟨h3, by omega⟩, h4⟩
      rw [h11, h12, r1]
      rcases hm with rfl | rfl
      · exact go_0 hnf hn hw hU hL hr eU eL up r2 r3 r4 fin 4 0 ai (-1) _ _ _ _ _ _ (by decide) (fun _ _ => rfl) base
      · have bc := cmB_b (q := (n : Int))
        have r2 : ai 238 (n : Int).toNat = 0 := r2
        have r3 : ai 237 (96 + (n : Int)).toNat = 0 := r3
        have r4 : ai 238 (96 + (n : Int)).toNat = 3 := r4
        refine go_o (o := 0) ⟨by omega, by omega⟩ hU bc (by decide) (by rw [r2]; decide) (by rw [r2]; decide) rfl rfl ?_
        rw [r3]
        exact go_2 hnf hn hw hU hL hr eU eL up r2 r4 rfl fin 4 0 ai (-1) _ _ _ (by decide) (fun _ _ => rfl) base
end GoOn2
