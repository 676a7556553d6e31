/-! the rounds of both are the same: that the class stops early changes nothing -/
theorem iB_ge {F : Int → Int} {a : Int} : ∀ (n : Nat) (b best which : Int), best ≤ (iB F a n b best which).1 ∧ ∀ j, b ≤ j → j < b + n → F j ≤ (iB F a n b best which).1
  | 0, b, best, which => ⟨Int.le_refl _, fun j h1 h2 => by omega⟩
  | n + 1, b, best, which => by
    unfold iB
    split
    · rename_i h
      obtain ⟨h1, h2⟩ := iB_ge (F := F) (a := a) n (b + 1) (F b) (4 * a + b)
      refine ⟨by omega, fun j q1 q2 => ?_⟩
      by_cases e : j = b
      · subst e
        exact h1
      · exact h2 j (by omega) (by omega)
    · rename_i h
      obtain ⟨h1, h2⟩ := iB_ge (F := F) (a := a) n (b + 1) best which
      refine ⟨h1, fun j q1 q2 => ?_⟩
      by_cases e : j = b
      · subst e
        omega
      · exact h2 j (by omega) (by omega)
theorem iB_st {F : Int → Int} {a : Int} : ∀ (n : Nat) (b best which : Int), (∀ j, b ≤ j → j < b + n → F j ≤ best) → iB F a n b best which = (best, which)
  | 0, _, _, _, _ => rfl
  | n + 1, b, best, which, h => by
    have hb := h b (by omega) (by omega)
    unfold iB
    rw [if_neg (by omega)]
    exact iB_st n (b + 1) best which (fun j h1 h2 => h j (by omega) (by omega))
theorem gM_top {p lo : Int} (h : lo ≤ gM p lo) : ∀ j, p ≤ j → gM j lo = lo := by
  intro j hj
  unfold gM at h ⊢
  split at h
  · split
    · omega
    · rfl
  · rename_i h2
    rw [if_neg (by omega)]
theorem iB_jB {F G : Int → Int} {lo a : Int} : ∀ (n : Nat) (b y best which : Int), (∀ j, b ≤ j → j < b + n → F j = G (gM j lo)) → (lo ≤ y → ∀ j, b ≤ j → j < b + n → F j ≤ best) → iB F a n b best which = jB G lo a n b y best which
  | 0, _, _, _, _, _, _ => rfl
  | n + 1, b, y, best, which, hF, hy => by
    unfold jB
    by_cases h : lo ≤ y
    · rw [if_pos h]
      exact iB_st (n + 1) b best which (hy h)
    · rw [if_neg h]
      unfold iB
      have e := hF b (by omega) (by omega)
      rw [← e]
      have top : lo ≤ gM b lo → ∀ j, b + 1 ≤ j → j < b + 1 + n → F j = F b := fun q j h1 h2 => by
        rw [hF j (by omega) (by omega), e, gM_top q j (by omega), gM_top q b (Int.le_refl _)]
      by_cases h2 : best < F b
      · rw [if_pos h2, if_neg (by omega), show 4 * a + b = a * 4 + b by omega]
        exact iB_jB n (b + 1) (gM b lo) (F b) (a * 4 + b) (fun j h1 h2 => hF j (by omega) (by omega)) (fun q j h1 h2 => by rw [top q j h1 h2]; exact Int.le_refl _)
      · rw [if_neg h2, if_pos (by omega)]
        exact iB_jB n (b + 1) (gM b lo) best which (fun j h1 h2 => hF j (by omega) (by omega)) (fun q j h1 h2 => by rw [top q j h1 h2]; omega)
theorem iA_st {F : Int → Int → Int} {fB : Int} {nB : Nat} : ∀ (n : Nat) (a best which : Int), (∀ i j, a ≤ i → i < a + n → fB ≤ j → j < fB + nB → F i j ≤ best) → iA F fB nB n a best which = (best, which)
  | 0, _, _, _, _ => rfl
  | n + 1, a, best, which, h => by
    unfold iA
    rw [iB_st nB fB best which (fun j h1 h2 => h a j (by omega) (by omega) h1 h2)]
    exact iA_st n (a + 1) best which (fun i j h1 h2 h3 h4 => h i j (by omega) (by omega) h3 h4)
theorem iA_jA {F G : Int → Int → Int} {up lo fB : Int} {nB : Nat} (hl : 0 ≤ lo) : ∀ (n : Nat) (a x best which : Int), (∀ i j, a ≤ i → i < a + n → fB ≤ j → j < fB + nB → F i j = G (gM i up) (gM j lo)) → (up ≤ x → ∀ i j, a ≤ i → i < a + n → fB ≤ j → j < fB + nB → F i j ≤ best) → iA F fB nB n a best which = jA G up lo fB nB n a x best which
  | 0, _, _, _, _, _, _ => rfl
  | n + 1, a, x, best, which, hF, hx => by
    unfold jA
    by_cases h : up ≤ x
    · rw [if_pos h]
      exact iA_st (n + 1) a best which (hx h)
    · rw [if_neg h]
      unfold iA
      have e := iB_jB (F := F a) (G := G (gM a up)) (lo := lo) (a := a) nB fB (-1) best which (fun j h1 h2 => hF a j (by omega) (by omega) h1 h2) (fun q => by omega)
      rw [← e]
      refine iA_jA hl n (a + 1) (gM a up) _ _ (fun i j h1 h2 h3 h4 => hF i j (by omega) (by omega) h3 h4) (fun q i j h1 h2 h3 h4 => ?_)
      rw [hF i j (by omega) (by omega) h3 h4, gM_top q i (by omega), ← gM_top q a (Int.le_refl _), ← hF a j (by omega) (by omega) h3 h4]
      exact (iB_ge nB fB best which).2 j h3 h4
