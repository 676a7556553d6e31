/-! THE EVALUATOR IS SOUND: its arms -/
def GG (E : eE) (ρ : Nat → Int) (X : kt) (r : rs) (pc : Nat) (L : List (Option av)) (S : List av) (N : Nat) (T : Tr 32) : Prop :=
  N ≤ r.2.1 ∧ zi r.2.1 r.2.2 ∧ ∀ L' S' fi fr ai al, lr ρ L L' → sr ρ S S' → hp ρ E.1 N T fi fr ai al → X pc L' S' N fi fr ai al
def HN (E : eE) (ρ : Nat → Int) (nx : nt) (X : kt) (r : rs) : Prop := ∀ pc L S N T, nx pc L S N T = some r → (10 ≤ E.1 ∨ 233 ≤ N) → zi N T → GG E ρ X r pc L S N T
def HI (E : eE) (ρ : Nat → Int) (iv : ivt) (K : ct) (ex : xt) (X : kt) (r : rs) : Prop := ∀ y n rc pc np L S N T, iv y n rc pc np L S N T = some r → (10 ≤ E.1 ∨ 233 ≤ N) → zi N T → GG E ρ (fun pc L S N fi fr ai al => inv E.1 K ex r.2.1 X y n rc pc np L S N fi fr ai al) r pc L S N T
/-- the environment: tokens lie in their bounds, the script is as it is read, token 0 under the mask -/
def EO (E : eE) (ρ : Nat → Int) (scL : Nat) (scX : Nat → Int) : Prop := (∀ t, (E.2.2.2.1 t).1 ≤ (E.2.2.2.1 t).2 → (E.2.2.2.1 t).1 ≤ ρ t ∧ ρ t ≤ (E.2.2.2.1 t).2) ∧ (E.2.1 ≤ 6 → E.2.1 = scL ∧ (∀ j, j < scL → gm ρ (E.2.2.1 j) (scX j)) ∧ cnc E.2.2.2.2 = true ∧ b32 (fun p q => p &&& q) (ρ 0) 63 = E.2.2.2.2)
section Arms
variable {E : eE} {ρ : Nat → Int} {scL : Nat} {scX : Nat → Int} {nx : nt} {iv : ivt} {X Y : kt} {r : rs} {pc np N : Nat} {L : List (Option av)} {S : List av} {T : Tr 32}
theorem gg_step {pc1 N1 : Nat} {L1 : List (Option av)} {S1 : List av} {T1 : Tr 32} (g : GG E ρ X r pc1 L1 S1 N1 T1) (hle : N ≤ N1)
    (hm : ∀ L' S' fi fr ai al, lr ρ L L' → sr ρ S S' → hp ρ E.1 N T fi fr ai al → ∃ L1' S1' fi1 fr1 ai1 al1, lr ρ L1 L1' ∧ sr ρ S1 S1' ∧ hp ρ E.1 N1 T1 fi1 fr1 ai1 al1 ∧ (X pc1 L1' S1' N1 fi1 fr1 ai1 al1 → Y pc L' S' N fi fr ai al)) : GG E ρ Y r pc L S N T := by
  obtain ⟨g1, g2, g3⟩ := g
  refine ⟨by omega, g2, fun L' S' fi fr ai al hL hS hh => ?_⟩
  obtain ⟨L1', S1', fi1, fr1, ai1, al1, q1, q2, q3, q4⟩ := hm L' S' fi fr ai al hL hS hh
  exact q4 (g3 _ _ _ _ _ _ q1 q2 q3)
theorem s_con {v v' : av} (hv : vr ρ v v') (hY : ∀ L' S' fi fr ai al, X np L' (v' :: S') N fi fr ai al → Y pc L' S' N fi fr ai al) (hn : HN E ρ nx X r) (hM : 10 ≤ E.1 ∨ 233 ≤ N) (hz : zi N T) (h : a_con v np E nx iv pc L S N T = some r) : GG E ρ Y r pc L S N T :=
  gg_step (hn _ _ _ _ _ h hM hz) (Nat.le_refl _) fun L' S' fi fr ai al hL hS hh => ⟨L', v' :: S', fi, fr, ai, al, hL, ⟨hv, hS⟩, hh, hY _ _ _ _ _ _⟩
theorem s_ild {k : Nat} (hY : ∀ z L' S' fi fr ai al, gl L' k = some (.inl z) → X np L' (.inl z :: S') N fi fr ai al → Y pc L' S' N fi fr ai al) (hn : HN E ρ nx X r) (hM : 10 ≤ E.1 ∨ 233 ≤ N) (hz : zi N T) (h : a_ild k np E nx iv pc L S N T = some r) : GG E ρ Y r pc L S N T := by
  unfold a_ild at h
  revert h
  split
  · rename_i z e
    intro h
    refine gg_step (hn _ _ _ _ _ h hM hz) (Nat.le_refl _) fun L' S' fi fr ai al hL hS hh => ?_
    obtain ⟨v', e', hv⟩ := lr_gl k hL e
    rcases v' with x | b
    · exact ⟨L', .inl x :: S', fi, fr, ai, al, hL, ⟨hv, hS⟩, hh, hY _ _ _ _ _ _ _ e'⟩
    · exact hv.elim
  · exact fun h => nomatch h
theorem s_ald {k : Nat} (hY : ∀ z L' S' fi fr ai al, gl L' k = some (.inr (.inl z)) → X np L' (.inr (.inl z) :: S') N fi fr ai al → Y pc L' S' N fi fr ai al) (hn : HN E ρ nx X r) (hM : 10 ≤ E.1 ∨ 233 ≤ N) (hz : zi N T) (h : a_ald k np E nx iv pc L S N T = some r) : GG E ρ Y r pc L S N T := by
  unfold a_ald at h
  revert h
  split
  · rename_i z e
    intro h
    refine gg_step (hn _ _ _ _ _ h hM hz) (Nat.le_refl _) fun L' S' fi fr ai al hL hS hh => ?_
    obtain ⟨v', e', hv⟩ := lr_gl k hL e
    rcases v' with x | b
    · exact hv.elim
    · cases (hv : b = _)
      exact ⟨L', .inr (.inl z) :: S', fi, fr, ai, al, hL, ⟨rfl, hS⟩, hh, hY _ _ _ _ _ _ _ e'⟩
  · exact fun h => nomatch h
theorem s_lld {k : Nat} (hY : ∀ z L' S' fi fr ai al, gl L' k = some (.inr (.inr z)) → X np L' (.inr (.inr z) :: S') N fi fr ai al → Y pc L' S' N fi fr ai al) (hn : HN E ρ nx X r) (hM : 10 ≤ E.1 ∨ 233 ≤ N) (hz : zi N T) (h : a_lld k np E nx iv pc L S N T = some r) : GG E ρ Y r pc L S N T := by
  unfold a_lld at h
  revert h
  split
  · rename_i z e
    intro h
    refine gg_step (hn _ _ _ _ _ h hM hz) (Nat.le_refl _) fun L' S' fi fr ai al hL hS hh => ?_
    obtain ⟨v', e', hv⟩ := lr_gl k hL e
    rcases v' with x | b
    · exact hv.elim
    · cases (hv : b = _)
      exact ⟨L', .inr (.inr z) :: S', fi, fr, ai, al, hL, ⟨rfl, hS⟩, hh, hY _ _ _ _ _ _ _ e'⟩
  · exact fun h => nomatch h
theorem s_ist {k : Nat} (hY : ∀ z L' S' fi fr ai al, X np (sl L' k (.inl z)) S' N fi fr ai al → Y pc L' (.inl z :: S') N fi fr ai al) (hn : HN E ρ nx X r) (hM : 10 ≤ E.1 ∨ 233 ≤ N) (hz : zi N T) (h : a_ist k np E nx iv pc L S N T = some r) : GG E ρ Y r pc L S N T := by
  unfold a_ist at h
  revert h
  split
  · intro h
    refine gg_step (hn _ _ _ _ _ h hM hz) (Nat.le_refl _) fun L' S' fi fr ai al hL hS hh => ?_
    obtain ⟨x, t, rfl, hx, ht1⟩ := sr_inl hS
    exact ⟨sl L' k (.inl x), t, fi, fr, ai, al, lr_sl (v := .inl _) (v' := .inl x) hx k hL, ht1, hh, hY _ _ _ _ _ _ _⟩
  · exact fun h => nomatch h
theorem s_ast {k : Nat} (hY : ∀ z L' S' fi fr ai al, X np (sl L' k (.inr (.inl z))) S' N fi fr ai al → Y pc L' (.inr (.inl z) :: S') N fi fr ai al) (hn : HN E ρ nx X r) (hM : 10 ≤ E.1 ∨ 233 ≤ N) (hz : zi N T) (h : a_ast k np E nx iv pc L S N T = some r) : GG E ρ Y r pc L S N T := by
  unfold a_ast at h
  revert h
  split
  · rename_i z _
    intro h
    refine gg_step (hn _ _ _ _ _ h hM hz) (Nat.le_refl _) fun L' S' fi fr ai al hL hS hh => ?_
    obtain ⟨t, rfl, ht1⟩ := sr_inr hS
    exact ⟨sl L' k (.inr (.inl z)), t, fi, fr, ai, al, lr_sl (v := .inr (.inl z)) (v' := .inr (.inl z)) rfl k hL, ht1, hh, hY _ _ _ _ _ _ _⟩
  · exact fun h => nomatch h
theorem s_inc {k : Nat} {n : Int} (hY : ∀ z L' S' fi fr ai al, gl L' k = some (.inl z) → X np (sl L' k (.inl (z + n))) S' N fi fr ai al → Y pc L' S' N fi fr ai al) (hn : HN E ρ nx X r) (hM : 10 ≤ E.1 ∨ 233 ≤ N) (hz : zi N T) (h : a_inc k n np E nx iv pc L S N T = some r) : GG E ρ Y r pc L S N T := by
  unfold a_inc at h
  revert h
  split
  · rename_i z e
    intro h
    rcases bif_some h with ⟨hc, h⟩ | ⟨-, h⟩
    · rw [frq_eq] at h
      refine gg_step (hn _ _ _ _ _ h hM hz) (Nat.le_refl _) fun L' S' fi fr ai al hL hS hh => ?_
      obtain ⟨v', e', hv⟩ := lr_gl k hL e
      rcases v' with x | b
      · cases gm_c hc hv
        exact ⟨sl L' k (.inl (z + n)), S', fi, fr, ai, al, lr_sl (v := .inl _) (v' := .inl _) gm_nz k hL, hS, hh, hY _ _ _ _ _ _ _ e'⟩
      · exact hv.elim
    · refine gg_step (hn _ _ _ _ _ h hM hz) (Nat.le_refl _) fun L' S' fi fr ai al hL hS hh => ?_
      obtain ⟨v', e', hv⟩ := lr_gl k hL e
      rcases v' with x | b
      · exact ⟨sl L' k (.inl (x + n)), S', fi, fr, ai, al, lr_sl (v := .inl _) (v' := .inl _) gm_jk k hL, hS, hh, hY _ _ _ _ _ _ _ e'⟩
      · exact hv.elim
  · exact fun h => nomatch h
theorem s_dup (hY : ∀ v L' S' fi fr ai al, c1 v = true → X np L' (v :: v :: S') N fi fr ai al → Y pc L' (v :: S') N fi fr ai al) (hn : HN E ρ nx X r) (hM : 10 ≤ E.1 ∨ 233 ≤ N) (hz : zi N T) (h : a_dup np E nx iv pc L S N T = some r) : GG E ρ Y r pc L S N T := by
  unfold a_dup at h
  revert h
  split
  · intro h
    obtain ⟨hc, h⟩ := bif_sn h
    refine gg_step (hn _ _ _ _ _ h hM hz) (Nat.le_refl _) fun L' S' fi fr ai al hL hS hh => ?_
    obtain ⟨v', t, rfl, hv, ht1⟩ := sr_cons hS
    exact ⟨L', v' :: v' :: t, fi, fr, ai, al, hL, ⟨hv, hv, ht1⟩, hh, hY _ _ _ _ _ _ _ ((vr_c1 hv).trans hc)⟩
  · exact fun h => nomatch h
theorem s_dp2 (hY : ∀ v w L' S' fi fr ai al, (c1 v && c1 w) = true → X np L' (v :: w :: v :: w :: S') N fi fr ai al → Y pc L' (v :: w :: S') N fi fr ai al) (hn : HN E ρ nx X r) (hM : 10 ≤ E.1 ∨ 233 ≤ N) (hz : zi N T) (h : a_dp2 np E nx iv pc L S N T = some r) : GG E ρ Y r pc L S N T := by
  unfold a_dp2 at h
  revert h
  split
  · intro h
    obtain ⟨hc, h⟩ := bif_sn h
    refine gg_step (hn _ _ _ _ _ h hM hz) (Nat.le_refl _) fun L' S' fi fr ai al hL hS hh => ?_
    obtain ⟨v', t, rfl, hv, ht1⟩ := sr_cons hS
    obtain ⟨w', t, rfl, hw, ht2⟩ := sr_cons ht1
    exact ⟨L', v' :: w' :: v' :: w' :: t, fi, fr, ai, al, hL, ⟨hv, hw, hv, hw, ht2⟩, hh, hY _ _ _ _ _ _ _ _ (by rw [vr_c1 hv, vr_c1 hw]; exact hc)⟩
  · exact fun h => nomatch h
theorem s_pop (hY : ∀ v L' S' fi fr ai al, c1 v = true → X np L' S' N fi fr ai al → Y pc L' (v :: S') N fi fr ai al) (hn : HN E ρ nx X r) (hM : 10 ≤ E.1 ∨ 233 ≤ N) (hz : zi N T) (h : a_pop np E nx iv pc L S N T = some r) : GG E ρ Y r pc L S N T := by
  unfold a_pop at h
  revert h
  split
  · intro h
    obtain ⟨hc, h⟩ := bif_sn h
    refine gg_step (hn _ _ _ _ _ h hM hz) (Nat.le_refl _) fun L' S' fi fr ai al hL hS hh => ?_
    obtain ⟨v', t, rfl, hv, ht1⟩ := sr_cons hS
    exact ⟨L', t, fi, fr, ai, al, hL, ht1, hh, hY _ _ _ _ _ _ _ ((vr_c1 hv).trans hc)⟩
  · exact fun h => nomatch h
theorem s_bin {f : Int → Int → Int} (hY : ∀ x y L' S' fi fr ai al, X np L' (.inl (f x y) :: S') N fi fr ai al → Y pc L' (.inl y :: .inl x :: S') N fi fr ai al) (hn : HN E ρ nx X r) (hM : 10 ≤ E.1 ∨ 233 ≤ N) (hz : zi N T) (h : a_bin f np E nx iv pc L S N T = some r) : GG E ρ Y r pc L S N T := by
  unfold a_bin at h
  revert h
  split
  · rename_i y x S0
    intro h
    rcases bif_some h with ⟨hc, h⟩ | ⟨-, h⟩
    · rw [frq_eq] at h
      obtain ⟨cx, cy⟩ := and_tt hc
      refine gg_step (hn _ _ _ _ _ h hM hz) (Nat.le_refl _) fun L' S' fi fr ai al hL hS hh => ?_
      obtain ⟨y', t, rfl, hy, ht1⟩ := sr_inl hS
      obtain ⟨x', t, rfl, hx, ht2⟩ := sr_inl ht1
      cases gm_c cx hx
      cases gm_c cy hy
      exact ⟨L', .inl (f x y) :: t, fi, fr, ai, al, hL, ⟨gm_nz, ht2⟩, hh, hY _ _ _ _ _ _ _ _⟩
    · refine gg_step (hn _ _ _ _ _ h hM hz) (Nat.le_refl _) fun L' S' fi fr ai al hL hS hh => ?_
      obtain ⟨y', t, rfl, hy, ht1⟩ := sr_inl hS
      obtain ⟨x', t, rfl, hx, ht2⟩ := sr_inl ht1
      exact ⟨L', .inl (f x' y') :: t, fi, fr, ai, al, hL, ⟨gm_jk, ht2⟩, hh, hY _ _ _ _ _ _ _ _⟩
  · exact fun h => nomatch h
theorem s_and (hE : EO E ρ scL scX) (hY : ∀ x y L' S' fi fr ai al, X np L' (.inl (b32 (fun p q => p &&& q) x y) :: S') N fi fr ai al → Y pc L' (.inl y :: .inl x :: S') N fi fr ai al) (hn : HN E ρ nx X r) (hM : 10 ≤ E.1 ∨ 233 ≤ N) (hz : zi N T) (h : a_and np E nx iv pc L S N T = some r) : GG E ρ Y r pc L S N T := by
  unfold a_and at h
  revert h
  split
  · rename_i y x S0
    intro h
    rcases bif_some h with ⟨hc, h⟩ | ⟨-, h⟩
    · rw [frq_eq] at h
      obtain ⟨cx, cy⟩ := and_tt hc
      refine gg_step (hn _ _ _ _ _ h hM hz) (Nat.le_refl _) fun L' S' fi fr ai al hL hS hh => ?_
      obtain ⟨y', t, rfl, hy, ht1⟩ := sr_inl hS
      obtain ⟨x', t, rfl, hx, ht2⟩ := sr_inl ht1
      cases gm_c cx hx
      cases gm_c cy hy
      exact ⟨L', .inl (b32 (fun p q => p &&& q) x y) :: t, fi, fr, ai, al, hL, ⟨gm_nz, ht2⟩, hh, hY _ _ _ _ _ _ _ _⟩
    · rcases bif_some h with ⟨hc, h⟩ | ⟨-, h⟩
      · obtain ⟨h6, hc⟩ := and_tt hc
        obtain ⟨cx, cy⟩ := and_tt hc
        obtain ⟨-, -, o1, o2⟩ := hE.2 (Nat.le_of_ble_eq_true h6)
        have cx := (ieq_iff _ _).mp cx
        have cy := (ieq_iff _ _).mp cy
        refine gg_step (hn _ _ _ _ _ h hM hz) (Nat.le_refl _) fun L' S' fi fr ai al hL hS hh => ?_
        obtain ⟨y', t, rfl, hy, ht1⟩ := sr_inl hS
        obtain ⟨x', t, rfl, hx, ht2⟩ := sr_inl ht1
        subst cx
        subst cy
        have ey : y' = Int.ofNat 63 := gm_c rfl hy
        have ex : x' = ρ 0 := hx.2 rfl rfl
        subst ey
        subst ex
        refine ⟨L', .inl (b32 (fun p q => p &&& q) (ρ 0) 63) :: t, fi, fr, ai, al, hL, ⟨?_, ht2⟩, hh, hY _ _ _ _ _ _ _ _⟩
        rw [o2]
        exact gm_self o1
      · refine gg_step (hn _ _ _ _ _ h hM hz) (Nat.le_refl _) fun L' S' fi fr ai al hL hS hh => ?_
        obtain ⟨y', t, rfl, hy, ht1⟩ := sr_inl hS
        obtain ⟨x', t, rfl, hx, ht2⟩ := sr_inl ht1
        exact ⟨L', .inl (b32 (fun p q => p &&& q) x' y') :: t, fi, fr, ai, al, hL, ⟨gm_jk, ht2⟩, hh, hY _ _ _ _ _ _ _ _⟩
  · exact fun h => nomatch h
theorem s_div {f : Int → Int → Int} (hY : ∀ x y L' S' fi fr ai al, (rg x ∧ rg y ∧ y ≠ 0) → X np L' (.inl (f x y) :: S') N fi fr ai al → Y pc L' (.inl y :: .inl x :: S') N fi fr ai al) (hn : HN E ρ nx X r) (hM : 10 ≤ E.1 ∨ 233 ≤ N) (hz : zi N T) (h : a_div f np E nx iv pc L S N T = some r) : GG E ρ Y r pc L S N T := by
  unfold a_div at h
  revert h
  split
  · rename_i y x S0
    intro h
    obtain ⟨hc, h⟩ := bif_sn h
    rw [frq_eq] at h
    obtain ⟨hc, h2⟩ := and_tt hc
    obtain ⟨cx, cy⟩ := and_tt hc
    obtain ⟨h2, h3⟩ := and_tt h2
    obtain ⟨hx1, hy1⟩ := and_tt h2
    refine gg_step (hn _ _ _ _ _ h hM hz) (Nat.le_refl _) fun L' S' fi fr ai al hL hS hh => ?_
    obtain ⟨y', t, rfl, hy, ht1⟩ := sr_inl hS
    obtain ⟨x', t, rfl, hx, ht2⟩ := sr_inl ht1
    cases gm_c cx hx
    cases gm_c cy hy
    have hy0 : y ≠ 0 := fun q => by rw [(ieq_iff y (Int.ofNat 0)).mpr q] at h3; exact nomatch h3
    exact ⟨L', .inl (f x y) :: t, fi, fr, ai, al, hL, ⟨gm_nz, ht2⟩, hh, hY _ _ _ _ _ _ _ _ ⟨rgB_iff hx1, rgB_iff hy1, hy0⟩⟩
  · exact fun h => nomatch h
theorem s_lbn {f : Int64 → Int64 → Int64} (hY : ∀ x y L' S' fi fr ai al, X np L' (.inr (.inr (f x y)) :: S') N fi fr ai al → Y pc L' (.inr (.inr y) :: .inr (.inr x) :: S') N fi fr ai al) (hn : HN E ρ nx X r) (hM : 10 ≤ E.1 ∨ 233 ≤ N) (hz : zi N T) (h : a_lbn f np E nx iv pc L S N T = some r) : GG E ρ Y r pc L S N T := by
  unfold a_lbn at h
  revert h
  split
  · rename_i y x S0
    intro h
    refine gg_step (hn _ _ _ _ _ h hM hz) (Nat.le_refl _) fun L' S' fi fr ai al hL hS hh => ?_
    obtain ⟨t, rfl, ht1⟩ := sr_inr hS
    obtain ⟨t, rfl, ht2⟩ := sr_inr ht1
    exact ⟨L', .inr (.inr (f x y)) :: t, fi, fr, ai, al, hL, ⟨rfl, ht2⟩, hh, hY _ _ _ _ _ _ _ _⟩
  · exact fun h => nomatch h
theorem s_lsh {f : Int → Int64 → Int64} (hY : ∀ y x L' S' fi fr ai al, X np L' (.inr (.inr (f y x)) :: S') N fi fr ai al → Y pc L' (.inl y :: .inr (.inr x) :: S') N fi fr ai al) (hn : HN E ρ nx X r) (hM : 10 ≤ E.1 ∨ 233 ≤ N) (hz : zi N T) (h : a_lsh f np E nx iv pc L S N T = some r) : GG E ρ Y r pc L S N T := by
  unfold a_lsh at h
  revert h
  split
  · rename_i y x S0
    intro h
    obtain ⟨hc, h⟩ := bif_sn h
    refine gg_step (hn _ _ _ _ _ h hM hz) (Nat.le_refl _) fun L' S' fi fr ai al hL hS hh => ?_
    obtain ⟨y', t, rfl, hy, ht1⟩ := sr_inl hS
    obtain ⟨t, rfl, ht2⟩ := sr_inr ht1
    cases gm_c hc hy
    exact ⟨L', .inr (.inr (f y x)) :: t, fi, fr, ai, al, hL, ⟨rfl, ht2⟩, hh, hY _ _ _ _ _ _ _ _⟩
  · exact fun h => nomatch h
theorem s_lcm (hY : ∀ x y L' S' fi fr ai al, X np L' (.inl (lg_cmp x y).toInt :: S') N fi fr ai al → Y pc L' (.inr (.inr y) :: .inr (.inr x) :: S') N fi fr ai al) (hn : HN E ρ nx X r) (hM : 10 ≤ E.1 ∨ 233 ≤ N) (hz : zi N T) (h : a_lcm np E nx iv pc L S N T = some r) : GG E ρ Y r pc L S N T := by
  unfold a_lcm at h
  revert h
  split
  · rename_i y x S0
    intro h
    rw [frq_eq] at h
    refine gg_step (hn _ _ _ _ _ h hM hz) (Nat.le_refl _) fun L' S' fi fr ai al hL hS hh => ?_
    obtain ⟨t, rfl, ht1⟩ := sr_inr hS
    obtain ⟨t, rfl, ht2⟩ := sr_inr ht1
    exact ⟨L', .inl (lg_cmp x y).toInt :: t, fi, fr, ai, al, hL, ⟨gm_nz, ht2⟩, hh, hY _ _ _ _ _ _ _ _⟩
  · exact fun h => nomatch h
theorem s_i2l (hY : ∀ x L' S' fi fr ai al, X np L' (.inr (.inr (Int32.ofInt x).toInt64) :: S') N fi fr ai al → Y pc L' (.inl x :: S') N fi fr ai al) (hn : HN E ρ nx X r) (hM : 10 ≤ E.1 ∨ 233 ≤ N) (hz : zi N T) (h : a_i2l np E nx iv pc L S N T = some r) : GG E ρ Y r pc L S N T := by
  unfold a_i2l at h
  revert h
  split
  · rename_i x S0
    intro h
    obtain ⟨hc, h⟩ := bif_sn h
    refine gg_step (hn _ _ _ _ _ h hM hz) (Nat.le_refl _) fun L' S' fi fr ai al hL hS hh => ?_
    obtain ⟨x', t, rfl, hx, ht1⟩ := sr_inl hS
    cases gm_c hc hx
    exact ⟨L', .inr (.inr (Int32.ofInt x).toInt64) :: t, fi, fr, ai, al, hL, ⟨rfl, ht1⟩, hh, hY _ _ _ _ _ _ _⟩
  · exact fun h => nomatch h
theorem s_l2i (hY : ∀ x L' S' fi fr ai al, X np L' (.inl x.toInt32.toInt :: S') N fi fr ai al → Y pc L' (.inr (.inr x) :: S') N fi fr ai al) (hn : HN E ρ nx X r) (hM : 10 ≤ E.1 ∨ 233 ≤ N) (hz : zi N T) (h : a_l2i np E nx iv pc L S N T = some r) : GG E ρ Y r pc L S N T := by
  unfold a_l2i at h
  revert h
  split
  · rename_i x S0
    intro h
    rw [frq_eq] at h
    refine gg_step (hn _ _ _ _ _ h hM hz) (Nat.le_refl _) fun L' S' fi fr ai al hL hS hh => ?_
    obtain ⟨t, rfl, ht1⟩ := sr_inr hS
    exact ⟨L', .inl x.toInt32.toInt :: t, fi, fr, ai, al, hL, ⟨gm_nz, ht1⟩, hh, hY _ _ _ _ _ _ _⟩
  · exact fun h => nomatch h
theorem s_i2b (hY : ∀ x L' S' fi fr ai al, X np L' (.inl (byt x) :: S') N fi fr ai al → Y pc L' (.inl x :: S') N fi fr ai al) (hn : HN E ρ nx X r) (hM : 10 ≤ E.1 ∨ 233 ≤ N) (hz : zi N T) (h : a_i2b np E nx iv pc L S N T = some r) : GG E ρ Y r pc L S N T := by
  unfold a_i2b at h
  revert h
  split
  · rename_i x S0
    intro h
    rcases bif_some h with ⟨hc, h⟩ | ⟨-, h⟩
    · rw [frq_eq] at h
      refine gg_step (hn _ _ _ _ _ h hM hz) (Nat.le_refl _) fun L' S' fi fr ai al hL hS hh => ?_
      obtain ⟨x', t, rfl, hx, ht1⟩ := sr_inl hS
      cases gm_c hc hx
      exact ⟨L', .inl (byt x) :: t, fi, fr, ai, al, hL, ⟨gm_nz, ht1⟩, hh, hY _ _ _ _ _ _ _⟩
    · refine gg_step (hn _ _ _ _ _ h hM hz) (Nat.le_refl _) fun L' S' fi fr ai al hL hS hh => ?_
      obtain ⟨x', t, rfl, hx, ht1⟩ := sr_inl hS
      exact ⟨L', .inl (byt x') :: t, fi, fr, ai, al, hL, ⟨gm_jk, ht1⟩, hh, hY _ _ _ _ _ _ _⟩
  · exact fun h => nomatch h
theorem s_jmp {a : Nat} (hY : ∀ L' S' fi fr ai al, X a L' S' N fi fr ai al → Y pc L' S' N fi fr ai al) (hn : HN E ρ nx X r) (hM : 10 ≤ E.1 ∨ 233 ≤ N) (hz : zi N T) (h : a_jmp a E nx iv pc L S N T = some r) : GG E ρ Y r pc L S N T :=
  gg_step (hn _ _ _ _ _ h hM hz) (Nat.le_refl _) fun L' S' fi fr ai al hL hS hh => ⟨L', S', fi, fr, ai, al, hL, hS, hh, hY _ _ _ _ _ _⟩
theorem s_icm {c : ClassFile.Cond} {a : Nat} (hE : EO E ρ scL scX) (hY : ∀ x y L' S' fi fr ai al, brn c x y (X a L' S' N fi fr ai al) (X np L' S' N fi fr ai al) → Y pc L' (.inl y :: .inl x :: S') N fi fr ai al) (hn : HN E ρ nx X r) (hM : 10 ≤ E.1 ∨ 233 ≤ N) (hz : zi N T) (h : a_icm c a np E nx iv pc L S N T = some r) : GG E ρ Y r pc L S N T := by
  unfold a_icm at h
  revert h
  split
  · rename_i y x S0
    split
    · rename_i b hb
      intro h
      rcases bif_some h with ⟨h1, h⟩ | ⟨h1, h⟩
      · refine gg_step (hn _ _ _ _ _ h hM hz) (Nat.le_refl _) fun L' S' fi fr ai al hL hS hh => ?_
        obtain ⟨y', t, rfl, hy, ht1⟩ := sr_inl hS
        obtain ⟨x', t, rfl, hx, ht2⟩ := sr_inl ht1
        obtain ⟨g1, g2⟩ := cmpA_ok hE.1 hb hx hy
        exact ⟨L', t, fi, fr, ai, al, hL, ht2, hh, fun q => hY _ _ _ _ _ _ _ _ (brn_of g1 g2 (fun _ => q) (fun z => by rw [h1] at z; exact nomatch z))⟩
      · refine gg_step (hn _ _ _ _ _ h hM hz) (Nat.le_refl _) fun L' S' fi fr ai al hL hS hh => ?_
        obtain ⟨y', t, rfl, hy, ht1⟩ := sr_inl hS
        obtain ⟨x', t, rfl, hx, ht2⟩ := sr_inl ht1
        obtain ⟨g1, g2⟩ := cmpA_ok hE.1 hb hx hy
        exact ⟨L', t, fi, fr, ai, al, hL, ht2, hh, fun q => hY _ _ _ _ _ _ _ _ (brn_of g1 g2 (fun z => by rw [h1] at z; exact nomatch z) (fun _ => q))⟩
    · exact fun h => nomatch h
  · exact fun h => nomatch h
theorem s_icn {c : ClassFile.Cond} {a : Nat} (hE : EO E ρ scL scX) (hY : ∀ x L' S' fi fr ai al, brn c x 0 (X a L' S' N fi fr ai al) (X np L' S' N fi fr ai al) → Y pc L' (.inl x :: S') N fi fr ai al) (hn : HN E ρ nx X r) (hM : 10 ≤ E.1 ∨ 233 ≤ N) (hz : zi N T) (h : a_icn c a np E nx iv pc L S N T = some r) : GG E ρ Y r pc L S N T := by
  unfold a_icn at h
  revert h
  split
  · rename_i x S0
    split
    · rename_i b hb
      intro h
      rcases bif_some h with ⟨h1, h⟩ | ⟨h1, h⟩
      · refine gg_step (hn _ _ _ _ _ h hM hz) (Nat.le_refl _) fun L' S' fi fr ai al hL hS hh => ?_
        obtain ⟨x', t, rfl, hx, ht1⟩ := sr_inl hS
        obtain ⟨g1, g2⟩ := cmpA_ok hE.1 hb hx (gm_self rfl)
        exact ⟨L', t, fi, fr, ai, al, hL, ht1, hh, fun q => hY _ _ _ _ _ _ _ (brn_of g1 g2 (fun _ => q) (fun z => by rw [h1] at z; exact nomatch z))⟩
      · refine gg_step (hn _ _ _ _ _ h hM hz) (Nat.le_refl _) fun L' S' fi fr ai al hL hS hh => ?_
        obtain ⟨x', t, rfl, hx, ht1⟩ := sr_inl hS
        obtain ⟨g1, g2⟩ := cmpA_ok hE.1 hb hx (gm_self rfl)
        exact ⟨L', t, fi, fr, ai, al, hL, ht1, hh, fun q => hY _ _ _ _ _ _ _ (brn_of g1 g2 (fun z => by rw [h1] at z; exact nomatch z) (fun _ => q))⟩
    · exact fun h => nomatch h
  · exact fun h => nomatch h
theorem s_nul {a : Nat} (hY : ∀ q L' S' fi fr ai al, (q = none → X a L' S' N fi fr ai al) → (q ≠ none → X np L' S' N fi fr ai al) → Y pc L' (.inr (.inl q) :: S') N fi fr ai al) (hn : HN E ρ nx X r) (hM : 10 ≤ E.1 ∨ 233 ≤ N) (hz : zi N T) (h : a_nul a np E nx iv pc L S N T = some r) : GG E ρ Y r pc L S N T := by
  unfold a_nul at h
  revert h
  split
  · rename_i q S0
    split
    · intro h
      refine gg_step (hn _ _ _ _ _ h hM hz) (Nat.le_refl _) fun L' S' fi fr ai al hL hS hh => ?_
      obtain ⟨t, rfl, ht1⟩ := sr_inr hS
      exact ⟨L', t, fi, fr, ai, al, hL, ht1, hh, fun q => hY _ _ _ _ _ _ _ (fun _ => q) (fun z => (z rfl).elim)⟩
    · intro h
      refine gg_step (hn _ _ _ _ _ h hM hz) (Nat.le_refl _) fun L' S' fi fr ai al hL hS hh => ?_
      obtain ⟨t, rfl, ht1⟩ := sr_inr hS
      exact ⟨L', t, fi, fr, ai, al, hL, ht1, hh, fun q => hY _ _ _ _ _ _ _ (fun z => nomatch z) (fun _ => q)⟩
  · exact fun h => nomatch h
theorem s_tsw {a : Nat} {lo hi : Int} {tl : List Nat} (hE : EO E ρ scL scX) (hY : ∀ z L' S' fi fr ai al, (rg z ∧ ((z < lo ∨ hi < z) → X a L' S' N fi fr ai al) ∧ tsw (fun t => X t L' S' N fi fr ai al) z lo tl) → Y pc L' (.inl z :: S') N fi fr ai al) (hl : ∀ z : Int, hi < z → ∀ f : Nat → Prop, tsw f z lo tl) (hn : HN E ρ nx X r) (hM : 10 ≤ E.1 ∨ 233 ≤ N) (hz : zi N T) (h : a_tsw a lo hi tl E nx iv pc L S N T = some r) : GG E ρ Y r pc L S N T := by
  unfold a_tsw at h
  revert h
  split
  · rename_i z S0
    split
    · rename_i p q hpq
      intro h
      obtain ⟨hr, h⟩ := bif_sn h
      obtain ⟨hr1, hr2⟩ := and_tt hr
      have hr1 := rgB_iff hr1
      have hr2 := rgB_iff hr2
      unfold rg at hr1 hr2
      rcases bif_some h with ⟨h1, h⟩ | ⟨h1, h⟩
      · refine gg_step (hn _ _ _ _ _ h hM hz) (Nat.le_refl _) fun L' S' fi fr ai al hL hS hh => ?_
        obtain ⟨x, t, rfl, hx, ht1⟩ := sr_inl hS
        obtain ⟨g1, g2⟩ := rng_gm hE.1 hpq hx
        refine ⟨L', t, fi, fr, ai, al, hL, ht1, hh, fun k => hY _ _ _ _ _ _ _ ⟨⟨by omega, by omega⟩, fun _ => k, ?_⟩⟩
        have h1 : ilt q lo = true ∨ ilt hi p = true := by
          revert h1
          cases ilt q lo <;> cases ilt hi p <;> simp
        rcases h1 with h1 | h1
        · have := (ilt_iff _ _).mp h1
          exact (tsw_of tl lo).1 (by omega)
        · have := (ilt_iff _ _).mp h1
          exact hl _ (by omega) _
      · obtain ⟨hc, h⟩ := bif_sn h
        revert h
        split
        · rename_i t0 ht0
          intro h
          refine gg_step (hn _ _ _ _ _ h hM hz) (Nat.le_refl _) fun L' S' fi fr ai al hL hS hh => ?_
          obtain ⟨x, t, rfl, hx, ht1⟩ := sr_inl hS
          cases gm_c hc hx
          obtain ⟨g1, g2⟩ := rng_gm hE.1 hpq hx
          have e : p = z ∧ q = z := by
            unfold rng at hpq
            rw [hc] at hpq
            cases hpq
            exact ⟨rfl, rfl⟩
          obtain ⟨rfl, rfl⟩ := e
          refine ⟨L', t, fi, fr, ai, al, hL, ht1, hh, fun k => hY _ _ _ _ _ _ _ ⟨⟨by omega, by omega⟩, fun w => ?_, (tsw_of tl lo).2 _ ht0 k⟩⟩
          exfalso
          revert h1
          rcases w with w | w
          · rw [(ilt_iff _ _).mpr w]; exact fun z => nomatch z
          · rw [(ilt_iff _ _).mpr w, Bool.or_true]; exact fun z => nomatch z
        · exact fun h => nomatch h
    · exact fun h => nomatch h
  · exact fun h => nomatch h
theorem lsw_out {f : Nat → Prop} {z : Int} {d : Nat} : ∀ (ps : List (Int × Int)) (l : List Nat), (∀ k ∈ ps, z ≠ k.1) → f d → lsw f z d ps l
  | [], _, _, h => h
  | _ :: _, [], _, h => h
  | p :: ps, _ :: l, hk, h => ⟨fun q => absurd q (hk p List.mem_cons_self), fun _ => lsw_out ps l (fun k hm => hk k (List.mem_cons_of_mem _ hm)) h⟩
theorem s_lsw {a : Nat} {ps : List (Int × Int)} {tl : List Nat} (hE : EO E ρ scL scX) (hY : ∀ z L' S' fi fr ai al, (rg z ∧ lsw (fun t => X t L' S' N fi fr ai al) z a ps tl) → Y pc L' (.inl z :: S') N fi fr ai al) (hn : HN E ρ nx X r) (hM : 10 ≤ E.1 ∨ 233 ≤ N) (hz : zi N T) (h : a_lsw a ps tl E nx iv pc L S N T = some r) : GG E ρ Y r pc L S N T := by
  unfold a_lsw at h
  revert h
  split
  · rename_i z S0
    intro h
    rcases bif_some h with ⟨hr, h⟩ | ⟨-, h⟩
    · obtain ⟨hc, hr⟩ := and_tt hr
      refine gg_step (hn _ _ _ _ _ h hM hz) (Nat.le_refl _) fun L' S' fi fr ai al hL hS hh => ?_
      obtain ⟨x, t, rfl, hx, ht⟩ := sr_inl hS
      cases gm_c hc hx
      exact ⟨L', t, fi, fr, ai, al, hL, ht, hh, fun k => hY _ _ _ _ _ _ _ ⟨rgB_iff hr, lsw_of ps tl k⟩⟩
    · revert h
      split
      · rename_i p q hpq
        intro h
        obtain ⟨hr, h⟩ := bif_sn h
        obtain ⟨hr, hall⟩ := and_tt hr
        obtain ⟨hr1, hr2⟩ := and_tt hr
        have hr1 := rgB_iff hr1
        have hr2 := rgB_iff hr2
        unfold rg at hr1 hr2
        refine gg_step (hn _ _ _ _ _ h hM hz) (Nat.le_refl _) fun L' S' fi fr ai al hL hS hh => ?_
        obtain ⟨x, t, rfl, hx, ht⟩ := sr_inl hS
        obtain ⟨g1, g2⟩ := rng_gm hE.1 hpq hx
        refine ⟨L', t, fi, fr, ai, al, hL, ht, hh, fun k => hY _ _ _ _ _ _ _ ⟨⟨by omega, by omega⟩, lsw_out ps tl (fun kk hm => ?_) k⟩⟩
        have hk := List.all_eq_true.mp hall kk hm
        have hk : ilt q kk.1 = true ∨ ilt kk.1 p = true := by
          revert hk
          cases ilt q kk.1 <;> cases ilt kk.1 p <;> simp
        rcases hk with hk | hk
        · have := (ilt_iff _ _).mp hk
          omega
        · have := (ilt_iff _ _).mp hk
          omega
      · exact fun h => nomatch h
  · exact fun h => nomatch h
theorem s_gfi {a b : Nat} (hb : b ≤ 8388607) (hY : ∀ o L' S' fi fr ai al, isK E.1 o (10 + a) N = true → X np L' (.inl (fi o b) :: S') N fi fr ai al → Y pc L' (.inr (.inl (some o)) :: S') N fi fr ai al) (hn : HN E ρ nx X r) (hM : 10 ≤ E.1 ∨ 233 ≤ N) (hz : zi N T) (h : a_gfi a b np E nx iv pc L S N T = some r) : GG E ρ Y r pc L S N T := by
  unfold a_gfi at h
  revert h
  split
  · rename_i o S0
    intro h
    obtain ⟨hk, h⟩ := bif_sn h
    rw [frq_eq] at h
    refine gg_step (hn _ _ _ _ _ h hM hz) (Nat.le_refl _) fun L' S' fi fr ai al hL hS hh => ?_
    obtain ⟨t, rfl, ht1⟩ := sr_inr hS
    obtain ⟨h1, h2⟩ := isK_of hk hM
    exact ⟨L', .inl (fi o b) :: t, fi, fr, ai, al, hL, ⟨((hh o h1 b (by omega)).1 (by omega)).1, ht1⟩, hh, hY _ _ _ _ _ _ _ hk⟩
  · exact fun h => nomatch h
theorem s_gfr {a b : Nat} (hb : b ≤ 8388607) (hY : ∀ o L' S' fi fr ai al, isK E.1 o (10 + a) N = true → X np L' (.inr (.inl (fr o b)) :: S') N fi fr ai al → Y pc L' (.inr (.inl (some o)) :: S') N fi fr ai al) (hn : HN E ρ nx X r) (hM : 10 ≤ E.1 ∨ 233 ≤ N) (hz : zi N T) (h : a_gfr a b np E nx iv pc L S N T = some r) : GG E ρ Y r pc L S N T := by
  unfold a_gfr at h
  revert h
  split
  · rename_i o S0
    intro h
    obtain ⟨hk, h⟩ := bif_sn h
    rw [frr_eq] at h
    refine gg_step (hn _ _ _ _ _ h hM hz) (Nat.le_refl _) fun L' S' fi fr ai al hL hS hh => ?_
    obtain ⟨t, rfl, ht1⟩ := sr_inr hS
    obtain ⟨h1, h2⟩ := isK_of hk hM
    exact ⟨L', .inr (.inl (fr o b)) :: t, fi, fr, ai, al, hL, ⟨congrArg Sum.inl ((hh o h1 b (by omega)).1 (by omega)).2, ht1⟩, hh, hY _ _ _ _ _ _ _ hk⟩
  · exact fun h => nomatch h
theorem s_pfi {a b : Nat} (h256 : r.2.1 ≤ 256) (hb : b ≤ 8388607) (hY : ∀ z o L' S' fi fr ai al, isK E.1 o (10 + a) N = true → X np L' S' N (up2 fi o b z) fr ai al → Y pc L' (.inl z :: .inr (.inl (some o)) :: S') N fi fr ai al) (hn : HN E ρ nx X r) (hM : 10 ≤ E.1 ∨ 233 ≤ N) (hz : zi N T) (h : a_pfi a b np E nx iv pc L S N T = some r) : GG E ρ Y r pc L S N T := by
  unfold a_pfi at h
  revert h
  split
  · rename_i z o S0
    intro h
    obtain ⟨hk, h⟩ := bif_sn h
    obtain ⟨h1, h2⟩ := isK_of hk hM
    have hz0 : N ≤ 256 → zi N (ts 32 T (ky o b) z) := fun q => zi_ts hz h1 q (by omega)
    by_cases hN : N ≤ 256
    · have g := hn _ _ _ _ _ h hM (hz0 hN)
      refine gg_step g (Nat.le_refl _) fun L' S' fi fr ai al hL hS hh => ?_
      obtain ⟨x, t, rfl, hx, ht1⟩ := sr_inl hS
      obtain ⟨t, rfl, ht2⟩ := sr_inr ht1
      exact ⟨L', t, up2 fi o b x, fr, ai, al, hL, ht2, hp_f hh hN h1 (by omega) (by omega) hx, hY _ _ _ _ _ _ _ _ hk⟩
    · have g := hn _ _ _ _ _ h hM (fun i q1 q2 => by omega)
      have := g.1
      omega
  · exact fun h => nomatch h
theorem s_pfz {a b : Nat} (h256 : r.2.1 ≤ 256) (hb : b ≤ 8388607) (hY : ∀ z o L' S' fi fr ai al, isK E.1 o (10 + a) N = true → (z = 0 ∨ z = 1) → X np L' S' N (up2 fi o b z) fr ai al → Y pc L' (.inl z :: .inr (.inl (some o)) :: S') N fi fr ai al) (hn : HN E ρ nx X r) (hM : 10 ≤ E.1 ∨ 233 ≤ N) (hz : zi N T) (h : a_pfz a b np E nx iv pc L S N T = some r) : GG E ρ Y r pc L S N T := by
  unfold a_pfz at h
  revert h
  split
  · rename_i z o S0
    intro h
    obtain ⟨hk, h⟩ := bif_sn h
    obtain ⟨hk, h01⟩ := and_tt hk
    obtain ⟨h1, h2⟩ := isK_of hk hM
    have h01 : z = 0 ∨ z = 1 := by
      cases e1 : ieq z (Int.ofNat 0)
      · rw [e1] at h01
        exact Or.inr ((ieq_iff _ _).mp h01)
      · exact Or.inl ((ieq_iff _ _).mp e1)
    have hc : cnc z = true := by rcases h01 with rfl | rfl <;> rfl
    by_cases hN : N ≤ 256
    · have g := hn _ _ _ _ _ h hM (zi_ts hz h1 hN (by omega))
      refine gg_step g (Nat.le_refl _) fun L' S' fi fr ai al hL hS hh => ?_
      obtain ⟨x, t, rfl, hx, ht1⟩ := sr_inl hS
      obtain ⟨t, rfl, ht2⟩ := sr_inr ht1
      cases gm_c hc hx
      exact ⟨L', t, up2 fi o b z, fr, ai, al, hL, ht2, hp_f hh hN h1 (by omega) (by omega) hx, hY _ _ _ _ _ _ _ _ hk h01⟩
    · have g := hn _ _ _ _ _ h hM (fun i q1 q2 => by omega)
      have := g.1
      omega
  · exact fun h => nomatch h
theorem s_pfr {a b : Nat} (h256 : r.2.1 ≤ 256) (hb : b ≤ 8388607) (hY : ∀ q o L' S' fi fr ai al, isK E.1 o (10 + a) N = true → X np L' S' N fi (up2 fr o b q) ai al → Y pc L' (.inr (.inl q) :: .inr (.inl (some o)) :: S') N fi fr ai al) (hn : HN E ρ nx X r) (hM : 10 ≤ E.1 ∨ 233 ≤ N) (hz : zi N T) (h : a_pfr a b np E nx iv pc L S N T = some r) : GG E ρ Y r pc L S N T := by
  unfold a_pfr at h
  revert h
  split
  · rename_i q o S0
    intro h
    obtain ⟨hk, h⟩ := bif_sn h
    obtain ⟨h1, h2⟩ := isK_of hk hM
    by_cases hN : N ≤ 256
    · have g := hn _ _ _ _ _ h hM (zi_ts (b := 8388608 + b) hz h1 hN (by omega))
      refine gg_step g (Nat.le_refl _) fun L' S' fi fr ai al hL hS hh => ?_
      obtain ⟨t, rfl, ht1⟩ := sr_inr hS
      obtain ⟨t, rfl, ht2⟩ := sr_inr ht1
      exact ⟨L', t, fi, up2 fr o b q, ai, al, hL, ht2, hp_r hh hN h1 (by omega), hY _ _ _ _ _ _ _ _ hk⟩
    · have g := hn _ _ _ _ _ h hM (fun i q1 q2 => by omega)
      have := g.1
      omega
  · exact fun h => nomatch h
end Arms
