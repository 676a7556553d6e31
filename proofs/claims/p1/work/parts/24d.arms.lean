/-! THE EVALUATOR IS SOUND: arrays, new things, calls, ends -/
theorem tsw_hi {f : Nat → Prop} {z : Int} : ∀ (l : List Nat) (k : Int), k + Int.ofNat l.length ≤ z → tsw f z k l
  | [], _, _ => trivial
  | t :: l, k, h => by
    have e : Int.ofNat (t :: l).length = ((l.length : Nat) : Int) + 1 := rfl
    rw [e] at h
    refine ⟨fun q => by omega, tsw_hi l (k + 1) ?_⟩
    show k + 1 + ((l.length : Nat) : Int) ≤ z
    omega
theorem inb_nat {j : Int} {n : Nat} (h : inb j n) : j.toNat < n := by
  obtain ⟨h1, h2⟩ := h
  omega
section Arms2
variable {E : eE} {ρ : Nat → Int} {scL : Nat} {scX : Nat → Int} {nx : nt} {iv : ivt} {X Y : kt} {r : rs} {pc np N : Nat} {L : List (Option av)} {S : List av} {T : Tr 32}
theorem n_le (hn : HN E ρ nx X r) (h256 : r.2.1 ≤ 256) {pc1 N1 : Nat} {L1 : List (Option av)} {S1 : List av} {T1 : Tr 32} (h : nx pc1 L1 S1 N1 T1 = some r) (hM : 10 ≤ E.1 ∨ 233 ≤ N1) : N1 ≤ 256 := by
  by_cases hN : N1 ≤ 256
  · exact hN
  · have g := hn _ _ _ _ _ h hM (fun i q1 q2 => by omega)
    have := g.1
    omega
theorem s_ial (hE : EO E ρ scL scX) (h256 : r.2.1 ≤ 256) (hS : ∀ i, i < 256 → (shp E.1 i).2 ≤ 8388608)
    (hY0 : ∀ j L' S' fi fr ai al, inb j scL → X np L' (.inl (scX j.toNat) :: S') N fi fr ai al → Y pc L' (.inl j :: .inr (.inl (some 999999)) :: S') N fi fr ai al)
    (hY : ∀ j o L' S' fi fr ai al, Nat.beq o 999999 = false → isK E.1 o 0 N = true → inb j (shp E.1 o).2 → X np L' (.inl (ai o j.toNat) :: S') N fi fr ai al → Y pc L' (.inl j :: .inr (.inl (some o)) :: S') N fi fr ai al) (hn : HN E ρ nx X r) (hM : 10 ≤ E.1 ∨ 233 ≤ N) (hz : zi N T) (h : a_ial np E nx iv pc L S N T = some r) : GG E ρ Y r pc L S N T := by
  unfold a_ial at h
  revert h
  split
  · rename_i j o S0
    intro h
    rcases bif_some h with ⟨h1, h⟩ | ⟨h1, h⟩
    · obtain ⟨h2, h9⟩ := bif_sn h
      clear h
      obtain ⟨h6, h2⟩ := and_tt h2
      obtain ⟨hc, hi⟩ := and_tt h2
      have hi := inbB_iff hi
      obtain ⟨o1, o2, -, -⟩ := hE.2 (Nat.le_of_ble_eq_true h6)
      rw [o1] at hi
      have ho := Nat.eq_of_beq_eq_true h1
      subst ho
      refine gg_step (hn _ _ _ _ _ h9 hM hz) (Nat.le_refl _) fun L' S' fi fr ai al hL hS' hh => ?_
      obtain ⟨x, t, rfl, hx, ht1⟩ := sr_inl hS'
      obtain ⟨t, rfl, ht2⟩ := sr_inr ht1
      cases gm_c hc hx
      exact ⟨L', .inl (scX j.toNat) :: t, fi, fr, ai, al, hL, ⟨o2 _ (inb_nat hi), ht2⟩, hh, hY0 _ _ _ _ _ _ _ hi⟩
    · obtain ⟨h2, h⟩ := bif_sn h
      obtain ⟨hk, h2⟩ := and_tt h2
      obtain ⟨hc, hi⟩ := and_tt h2
      have hi := inbB_iff hi
      rw [frq_eq] at h
      obtain ⟨g1, g2⟩ := isK_of hk hM
      have hN := n_le hn h256 h hM
      refine gg_step (hn _ _ _ _ _ h hM hz) (Nat.le_refl _) fun L' S' fi fr ai al hL hS' hh => ?_
      obtain ⟨x, t, rfl, hx, ht1⟩ := sr_inl hS'
      obtain ⟨t, rfl, ht2⟩ := sr_inr ht1
      cases gm_c hc hx
      have := hS o (by omega)
      have := inb_nat hi
      exact ⟨L', .inl (ai o j.toNat) :: t, fi, fr, ai, al, hL, ⟨(hh o g1 j.toNat (by omega)).2.1 (by omega), ht2⟩, hh, hY _ _ _ _ _ _ _ _ h1 hk hi⟩
  · exact fun h => nomatch h
theorem s_ias (h256 : r.2.1 ≤ 256) (hS : ∀ i, i < 256 → (shp E.1 i).2 ≤ 8388608)
    (hY : ∀ z j o L' S' fi fr ai al, isK E.1 o 0 N = true → inb j (shp E.1 o).2 → X np L' S' N fi fr (up2 ai o j.toNat z) al → Y pc L' (.inl z :: .inl j :: .inr (.inl (some o)) :: S') N fi fr ai al) (hn : HN E ρ nx X r) (hM : 10 ≤ E.1 ∨ 233 ≤ N) (hz : zi N T) (h : a_ias np E nx iv pc L S N T = some r) : GG E ρ Y r pc L S N T := by
  unfold a_ias at h
  revert h
  split
  · rename_i z j o S0
    intro h
    obtain ⟨h2, h⟩ := bif_sn h
    obtain ⟨hk, h2⟩ := and_tt h2
    obtain ⟨hc, hi⟩ := and_tt h2
    have hi := inbB_iff hi
    rw [frn_eq] at h
    obtain ⟨g1, g2⟩ := isK_of hk hM
    have hN := n_le hn h256 h hM
    have := hS o (by omega)
    have := inb_nat hi
    refine gg_step (hn _ _ _ _ _ h hM (zi_ts hz g1 hN (by omega))) (Nat.le_refl _) fun L' S' fi fr ai al hL hS' hh => ?_
    obtain ⟨x, t, rfl, hx, ht1⟩ := sr_inl hS'
    obtain ⟨y, t, rfl, hy, ht2⟩ := sr_inl ht1
    obtain ⟨t, rfl, ht3⟩ := sr_inr ht2
    cases gm_c hc hy
    exact ⟨L', t, fi, fr, up2 ai o j.toNat x, al, hL, ht3, hp_a hh hN g1 (by omega) (by omega) hx, hY _ _ _ _ _ _ _ _ _ hk hi⟩
  · exact fun h => nomatch h
theorem s_bal (h256 : r.2.1 ≤ 256) (hS : ∀ i, i < 256 → (shp E.1 i).2 ≤ 8388608)
    (hY : ∀ j o L' S' fi fr ai al, isK E.1 o 1 N = true → inb j (shp E.1 o).2 → X np L' (.inl (ai o j.toNat) :: S') N fi fr ai al → Y pc L' (.inl j :: .inr (.inl (some o)) :: S') N fi fr ai al) (hn : HN E ρ nx X r) (hM : 10 ≤ E.1 ∨ 233 ≤ N) (hz : zi N T) (h : a_bal np E nx iv pc L S N T = some r) : GG E ρ Y r pc L S N T := by
  unfold a_bal at h
  revert h
  split
  · rename_i j o S0
    intro h
    obtain ⟨h2, h⟩ := bif_sn h
    obtain ⟨hk, h2⟩ := and_tt h2
    obtain ⟨hc, hi⟩ := and_tt h2
    have hi := inbB_iff hi
    rw [frq_eq] at h
    obtain ⟨g1, g2⟩ := isK_of hk hM
    have hN := n_le hn h256 h hM
    refine gg_step (hn _ _ _ _ _ h hM hz) (Nat.le_refl _) fun L' S' fi fr ai al hL hS' hh => ?_
    obtain ⟨x, t, rfl, hx, ht1⟩ := sr_inl hS'
    obtain ⟨t, rfl, ht2⟩ := sr_inr ht1
    cases gm_c hc hx
    have := hS o (by omega)
    have := inb_nat hi
    exact ⟨L', .inl (ai o j.toNat) :: t, fi, fr, ai, al, hL, ⟨(hh o g1 j.toNat (by omega)).2.1 (by omega), ht2⟩, hh, hY _ _ _ _ _ _ _ _ hk hi⟩
  · exact fun h => nomatch h
theorem s_bas (h256 : r.2.1 ≤ 256) (hS : ∀ i, i < 256 → (shp E.1 i).2 ≤ 8388608)
    (hY : ∀ z j o L' S' fi fr ai al, isK E.1 o 1 N = true → inb j (shp E.1 o).2 → X np L' S' N fi fr (up2 ai o j.toNat (byt z)) al → Y pc L' (.inl z :: .inl j :: .inr (.inl (some o)) :: S') N fi fr ai al) (hn : HN E ρ nx X r) (hM : 10 ≤ E.1 ∨ 233 ≤ N) (hz : zi N T) (h : a_bas np E nx iv pc L S N T = some r) : GG E ρ Y r pc L S N T := by
  unfold a_bas at h
  revert h
  split
  · rename_i z j o S0
    intro h
    obtain ⟨h2, h⟩ := bif_sn h
    obtain ⟨hk, h2⟩ := and_tt h2
    obtain ⟨hc, hi⟩ := and_tt h2
    have hi := inbB_iff hi
    rw [frn_eq] at h
    obtain ⟨g1, g2⟩ := isK_of hk hM
    rcases bif_some h with ⟨hcz, h⟩ | ⟨-, h⟩
    · rw [frq_eq] at h
      have hN := n_le hn h256 h hM
      have := hS o (by omega)
      have := inb_nat hi
      refine gg_step (hn _ _ _ _ _ h hM (zi_ts hz g1 hN (by omega))) (Nat.le_refl _) fun L' S' fi fr ai al hL hS' hh => ?_
      obtain ⟨x, t, rfl, hx, ht1⟩ := sr_inl hS'
      obtain ⟨y, t, rfl, hy, ht2⟩ := sr_inl ht1
      obtain ⟨t, rfl, ht3⟩ := sr_inr ht2
      cases gm_c hc hy
      cases gm_c hcz hx
      exact ⟨L', t, fi, fr, up2 ai o j.toNat (byt z), al, hL, ht3, hp_a hh hN g1 (by omega) (by omega) gm_nz, hY _ _ _ _ _ _ _ _ _ hk hi⟩
    · have hN := n_le hn h256 h hM
      have := hS o (by omega)
      have := inb_nat hi
      refine gg_step (hn _ _ _ _ _ h hM (zi_ts hz g1 hN (by omega))) (Nat.le_refl _) fun L' S' fi fr ai al hL hS' hh => ?_
      obtain ⟨x, t, rfl, hx, ht1⟩ := sr_inl hS'
      obtain ⟨y, t, rfl, hy, ht2⟩ := sr_inl ht1
      obtain ⟨t, rfl, ht3⟩ := sr_inr ht2
      cases gm_c hc hy
      exact ⟨L', t, fi, fr, up2 ai o j.toNat (byt x), al, hL, ht3, hp_a hh hN g1 (by omega) (by omega) gm_jk, hY _ _ _ _ _ _ _ _ _ hk hi⟩
  · exact fun h => nomatch h
theorem s_lal (h256 : r.2.1 ≤ 256) (hS : ∀ i, i < 256 → (shp E.1 i).2 ≤ 8388608)
    (hY : ∀ j o L' S' fi fr ai al, isK E.1 o 2 N = true → inb j (shp E.1 o).2 → X np L' (.inr (.inr (al o j.toNat)) :: S') N fi fr ai al → Y pc L' (.inl j :: .inr (.inl (some o)) :: S') N fi fr ai al) (hn : HN E ρ nx X r) (hM : 10 ≤ E.1 ∨ 233 ≤ N) (hz : zi N T) (h : a_lal np E nx iv pc L S N T = some r) : GG E ρ Y r pc L S N T := by
  unfold a_lal at h
  revert h
  split
  · rename_i j o S0
    intro h
    obtain ⟨h2, h⟩ := bif_sn h
    obtain ⟨hk, h2⟩ := and_tt h2
    obtain ⟨hc, hi⟩ := and_tt h2
    have hi := inbB_iff hi
    rw [frq_eq] at h
    obtain ⟨hcz, h⟩ := bif_sn h
    obtain ⟨g1, g2⟩ := isK_of hk hM
    have hN := n_le hn h256 h hM
    refine gg_step (hn _ _ _ _ _ h hM hz) (Nat.le_refl _) fun L' S' fi fr ai al hL hS' hh => ?_
    obtain ⟨x, t, rfl, hx, ht1⟩ := sr_inl hS'
    obtain ⟨t, rfl, ht2⟩ := sr_inr ht1
    cases gm_c hc hx
    have := hS o (by omega)
    have := inb_nat hi
    exact ⟨L', .inr (.inr (al o j.toNat)) :: t, fi, fr, ai, al, hL, ⟨congrArg Sum.inr (((hh o g1 j.toNat (by omega)).2.2 g2).1 hcz), ht2⟩, hh, hY _ _ _ _ _ _ _ _ hk hi⟩
  · exact fun h => nomatch h
theorem s_las (h256 : r.2.1 ≤ 256) (hS : ∀ i, i < 256 → (shp E.1 i).2 ≤ 8388608)
    (hY : ∀ w j o L' S' fi fr ai al, isK E.1 o 2 N = true → inb j (shp E.1 o).2 → X np L' S' N fi fr ai (up2 al o j.toNat w) → Y pc L' (.inr (.inr w) :: .inl j :: .inr (.inl (some o)) :: S') N fi fr ai al) (hn : HN E ρ nx X r) (hM : 10 ≤ E.1 ∨ 233 ≤ N) (hz : zi N T) (h : a_las np E nx iv pc L S N T = some r) : GG E ρ Y r pc L S N T := by
  unfold a_las at h
  revert h
  split
  · rename_i w j o S0
    intro h
    obtain ⟨h2, h⟩ := bif_sn h
    obtain ⟨hk, h2⟩ := and_tt h2
    obtain ⟨hc, hi⟩ := and_tt h2
    have hi := inbB_iff hi
    rw [frn_eq, frq_eq] at h
    obtain ⟨g1, g2⟩ := isK_of hk hM
    have hN := n_le hn h256 h hM
    have := hS o (by omega)
    have := inb_nat hi
    refine gg_step (hn _ _ _ _ _ h hM (zi_ts hz g1 hN (by omega))) (Nat.le_refl _) fun L' S' fi fr ai al hL hS' hh => ?_
    obtain ⟨t, rfl, ht1⟩ := sr_inr hS'
    obtain ⟨y, t, rfl, hy, ht2⟩ := sr_inl ht1
    obtain ⟨t, rfl, ht3⟩ := sr_inr ht2
    cases gm_c hc hy
    exact ⟨L', t, fi, fr, ai, up2 al o j.toNat w, hL, ht3, hp_l hh hN g1 g2 (by omega), hY _ _ _ _ _ _ _ _ _ hk hi⟩
  · exact fun h => nomatch h
theorem s_aal (hY : ∀ j o L' S' fi fr ai al, isK E.1 o 3 N = true → inb j (shp E.1 o).2 → X np L' (.inr (.inl (some (o + 1 + j.toNat))) :: S') N fi fr ai al → Y pc L' (.inl j :: .inr (.inl (some o)) :: S') N fi fr ai al) (hn : HN E ρ nx X r) (hM : 10 ≤ E.1 ∨ 233 ≤ N) (hz : zi N T) (h : a_aal np E nx iv pc L S N T = some r) : GG E ρ Y r pc L S N T := by
  unfold a_aal at h
  revert h
  split
  · rename_i j o S0
    intro h
    obtain ⟨h2, h⟩ := bif_sn h
    obtain ⟨hk, h2⟩ := and_tt h2
    obtain ⟨hc, hi⟩ := and_tt h2
    have hi := inbB_iff hi
    rw [frn_eq] at h
    refine gg_step (hn _ _ _ _ _ h hM hz) (Nat.le_refl _) fun L' S' fi fr ai al hL hS' hh => ?_
    obtain ⟨x, t, rfl, hx, ht1⟩ := sr_inl hS'
    obtain ⟨t, rfl, ht2⟩ := sr_inr ht1
    cases gm_c hc hx
    exact ⟨L', .inr (.inl (some (o + 1 + j.toNat))) :: t, fi, fr, ai, al, hL, ⟨rfl, ht2⟩, hh, hY _ _ _ _ _ _ _ _ hk hi⟩
  · exact fun h => nomatch h
theorem cnc_nat {n : Nat} (h : Nat.ble n 1099511627775 = true) : cnc (Int.ofNat n) = true := h
theorem s_len (hE : EO E ρ scL scX) (hY0 : ∀ L' S' fi fr ai al, X np L' (.inl (scL : Int) :: S') N fi fr ai al → Y pc L' (.inr (.inl (some 999999)) :: S') N fi fr ai al)
    (hY : ∀ o L' S' fi fr ai al, Nat.beq o 999999 = false → isAr E.1 o N = true → X np L' (.inl ((shp E.1 o).2 : Int) :: S') N fi fr ai al → Y pc L' (.inr (.inl (some o)) :: S') N fi fr ai al) (hn : HN E ρ nx X r) (hM : 10 ≤ E.1 ∨ 233 ≤ N) (hz : zi N T) (h : a_len np E nx iv pc L S N T = some r) : GG E ρ Y r pc L S N T := by
  unfold a_len at h
  revert h
  split
  · rename_i o S0
    intro h
    rcases bif_some h with ⟨h1, h⟩ | ⟨h1, h⟩
    · obtain ⟨h2, h9⟩ := bif_sn h
      clear h
      have ho := Nat.eq_of_beq_eq_true h1
      subst ho
      refine gg_step (hn _ _ _ _ _ h9 hM hz) (Nat.le_refl _) fun L' S' fi fr ai al hL hS' hh => ?_
      obtain ⟨t, rfl, ht1⟩ := sr_inr hS'
      have h6 := Nat.le_of_ble_eq_true h2
      obtain ⟨o1, -, -, -⟩ := hE.2 h6
      rw [← o1] at hY0
      exact ⟨L', .inl (E.2.1 : Int) :: t, fi, fr, ai, al, hL, ⟨gm_self (cnc_nat (Nat.ble_eq_true_of_le (by omega))), ht1⟩, hh, hY0 _ _ _ _ _ _⟩
    · obtain ⟨h2, h⟩ := bif_sn h
      obtain ⟨hk, h2⟩ := and_tt h2
      refine gg_step (hn _ _ _ _ _ h hM hz) (Nat.le_refl _) fun L' S' fi fr ai al hL hS' hh => ?_
      obtain ⟨t, rfl, ht1⟩ := sr_inr hS'
      exact ⟨L', .inl ((shp E.1 o).2 : Int) :: t, fi, fr, ai, al, hL, ⟨gm_self (cnc_nat h2), ht1⟩, hh, hY _ _ _ _ _ _ _ h1 hk⟩
  · exact fun h => nomatch h
theorem s_new {a : Nat} (h256 : r.2.1 ≤ 256) (hY : ∀ L' S' fi fr ai al, Nat.beq (shp E.1 N).1 (10 + a) = true → N + 1 ≤ r.2.1 → X np L' (.inr (.inl (some N)) :: S') (N + 1) (clr fi N 0) (clr fr N none) ai al → Y pc L' S' N fi fr ai al) (hn : HN E ρ nx X r) (hM : 10 ≤ E.1 ∨ 233 ≤ N) (hz : zi N T) (h : a_new a np E nx iv pc L S N T = some r) : GG E ρ Y r pc L S N T := by
  unfold a_new at h
  obtain ⟨hk, h⟩ := bif_sn h
  rw [frn_eq] at h
  have g := hn _ _ _ _ _ h (by omega) (zi_le hz (by omega))
  have g1 := g.1
  have hkk := Nat.eq_of_beq_eq_true hk
  refine gg_step g (by omega) fun L' S' fi fr ai al hL hS' hh => ?_
  exact ⟨L', .inr (.inl (some N)) :: S', clr fi N 0, clr fr N none, ai, al, hL, ⟨rfl, hS'⟩, hp_new hh hz (by omega) (by omega), hY _ _ _ _ _ _ hk g1⟩
theorem s_nar {a : Nat} (ha : a ≤ 2) (h256 : r.2.1 ≤ 256) (hY : ∀ z L' S' fi fr ai al, Nat.beq (shp E.1 N).1 a = true → (z = ((shp E.1 N).2 : Int) ∧ N + 1 ≤ r.2.1) → X np L' (.inr (.inl (some N)) :: S') (N + 1) fi fr (clr ai N 0) (clr al N 0) → Y pc L' (.inl z :: S') N fi fr ai al) (hn : HN E ρ nx X r) (hM : 10 ≤ E.1 ∨ 233 ≤ N) (hz : zi N T) (h : a_nar a np E nx iv pc L S N T = some r) : GG E ρ Y r pc L S N T := by
  unfold a_nar at h
  revert h
  split
  · rename_i z S0
    intro h
    obtain ⟨h2, h⟩ := bif_sn h
    obtain ⟨hk, h2⟩ := and_tt h2
    obtain ⟨hc, hq⟩ := and_tt h2
    have hq := (ieq_iff _ _).mp hq
    rw [frn_eq] at h
    have g := hn _ _ _ _ _ h (by omega) (zi_le hz (by omega))
    have g1 := g.1
    have hkk := Nat.eq_of_beq_eq_true hk
    refine gg_step g (by omega) fun L' S' fi fr ai al hL hS' hh => ?_
    obtain ⟨x, t, rfl, hx, ht1⟩ := sr_inl hS'
    cases gm_c hc hx
    exact ⟨L', .inr (.inl (some N)) :: t, fi, fr, clr ai N 0, clr al N 0, hL, ⟨rfl, ht1⟩, hp_nar hh hz (by omega) (by omega), hY _ _ _ _ _ _ _ hk ⟨hq, g1⟩⟩
  · exact fun h => nomatch h
theorem s_mna (h256 : r.2.1 ≤ 256) (hY : ∀ w z L' S' fi fr ai al, (Nat.beq (shp E.1 N).1 3 && gridok E.1 N (shp E.1 N).2 (shp E.1 (N + 1)).2) = true → (z = ((shp E.1 N).2 : Int) ∧ w = ((shp E.1 (N + 1)).2 : Int) ∧ N + 1 + (shp E.1 N).2 ≤ r.2.1) → X np L' (.inr (.inl (some N)) :: S') (N + 1 + (shp E.1 N).2) fi fr (clrR ai N (shp E.1 N).2 0) al → Y pc L' (.inl w :: .inl z :: S') N fi fr ai al) (hn : HN E ρ nx X r) (hM : 10 ≤ E.1 ∨ 233 ≤ N) (hz : zi N T) (h : a_mna np E nx iv pc L S N T = some r) : GG E ρ Y r pc L S N T := by
  unfold a_mna at h
  revert h
  split
  · rename_i w z S0
    intro h
    obtain ⟨h2, h⟩ := bif_sn h
    obtain ⟨hk, h2⟩ := and_tt h2
    obtain ⟨hc1, hc2⟩ := and_tt h2
    obtain ⟨hc1, hq1⟩ := and_tt hc1
    obtain ⟨hc2, hq2⟩ := and_tt hc2
    have hq1 := (ieq_iff _ _).mp hq1
    have hq2 := (ieq_iff _ _).mp hq2
    rw [frn_eq] at h
    have g := hn _ _ _ _ _ h (by omega) (zi_le hz (by omega))
    have g1 := g.1
    obtain ⟨hk3, hgr⟩ := and_tt hk
    have hkk := Nat.eq_of_beq_eq_true hk3
    refine gg_step g (by omega) fun L' S' fi fr ai al hL hS' hh => ?_
    obtain ⟨x, t, rfl, hx, ht1⟩ := sr_inl hS'
    obtain ⟨y, t, rfl, hy, ht2⟩ := sr_inl ht1
    cases gm_c hc2 hx
    cases gm_c hc1 hy
    refine ⟨L', .inr (.inl (some N)) :: t, fi, fr, clrR ai N (shp E.1 N).2 0, al, hL, ⟨rfl, ht2⟩, hp_mna hh hz (by omega) hkk (fun j hj => ?_), hY _ _ _ _ _ _ _ _ hk ⟨hq1, hq2, g1⟩⟩
    have := List.all_eq_true.mp hgr j (List.mem_range.mpr hj)
    exact Nat.eq_of_beq_eq_true (and_tt this).1
  · exact fun h => nomatch h
theorem s_min (hY : ∀ w z L' S' fi fr ai al, Nat.ble (wsum S') 8 = true → (rg z ∧ rg w) → X np L' (.inl (if z < w then z else w) :: S') N fi fr ai al → Y pc L' (.inl w :: .inl z :: S') N fi fr ai al) (hn : HN E ρ nx X r) (hM : 10 ≤ E.1 ∨ 233 ≤ N) (hz : zi N T) (h : a_min np E nx iv pc L S N T = some r) : GG E ρ Y r pc L S N T := by
  unfold a_min at h
  revert h
  split
  · rename_i w z S0
    intro h
    obtain ⟨h2, h⟩ := bif_sn h
    obtain ⟨hw, h2⟩ := and_tt h2
    obtain ⟨hc, hr⟩ := and_tt h2
    obtain ⟨hc1, hc2⟩ := and_tt hc
    obtain ⟨hr1, hr2⟩ := and_tt hr
    refine gg_step (hn _ _ _ _ _ h hM hz) (Nat.le_refl _) fun L' S' fi fr ai al hL hS' hh => ?_
    obtain ⟨x, t, rfl, hx, ht1⟩ := sr_inl hS'
    obtain ⟨y, t, rfl, hy, ht2⟩ := sr_inl ht1
    cases gm_c hc2 hx
    cases gm_c hc1 hy
    refine ⟨L', .inl (if z < w then z else w) :: t, fi, fr, ai, al, hL, ⟨?_, ht2⟩, hh, hY _ _ _ _ _ _ _ _ (by rw [sr_wsum ht2]; exact hw) ⟨rgB_iff hr1, rgB_iff hr2⟩⟩
    show gm ρ (bif ilt z w then z else w) (if z < w then z else w)
    by_cases hq : z < w
    · rw [if_pos hq, (ilt_iff z w).mpr hq]
      exact gm_self hc1
    · rw [if_neg hq]
      cases e : ilt z w
      · exact gm_self hc2
      · exact absurd ((ilt_iff z w).mp e) hq
  · exact fun h => nomatch h
theorem s_max (hY : ∀ w z L' S' fi fr ai al, Nat.ble (wsum S') 8 = true → (rg z ∧ rg w) → X np L' (.inl (if z < w then w else z) :: S') N fi fr ai al → Y pc L' (.inl w :: .inl z :: S') N fi fr ai al) (hn : HN E ρ nx X r) (hM : 10 ≤ E.1 ∨ 233 ≤ N) (hz : zi N T) (h : a_max np E nx iv pc L S N T = some r) : GG E ρ Y r pc L S N T := by
  unfold a_max at h
  revert h
  split
  · rename_i w z S0
    intro h
    obtain ⟨h2, h⟩ := bif_sn h
    obtain ⟨hw, h2⟩ := and_tt h2
    obtain ⟨hc, hr⟩ := and_tt h2
    obtain ⟨hc1, hc2⟩ := and_tt hc
    obtain ⟨hr1, hr2⟩ := and_tt hr
    refine gg_step (hn _ _ _ _ _ h hM hz) (Nat.le_refl _) fun L' S' fi fr ai al hL hS' hh => ?_
    obtain ⟨x, t, rfl, hx, ht1⟩ := sr_inl hS'
    obtain ⟨y, t, rfl, hy, ht2⟩ := sr_inl ht1
    cases gm_c hc2 hx
    cases gm_c hc1 hy
    refine ⟨L', .inl (if z < w then w else z) :: t, fi, fr, ai, al, hL, ⟨?_, ht2⟩, hh, hY _ _ _ _ _ _ _ _ (by rw [sr_wsum ht2]; exact hw) ⟨rgB_iff hr1, rgB_iff hr2⟩⟩
    show gm ρ (bif ilt z w then w else z) (if z < w then w else z)
    by_cases hq : z < w
    · rw [if_pos hq, (ilt_iff z w).mpr hq]
      exact gm_self hc2
    · rw [if_neg hq]
      cases e : ilt z w
      · exact gm_self hc1
      · exact absurd ((ilt_iff z w).mp e) hq
  · exact fun h => nomatch h
theorem s_cpy (h256 : r.2.1 ≤ 256) (hS : ∀ i, i < 256 → (shp E.1 i).2 ≤ 8388608)
    (hY : ∀ (n dp : Int) (b : Nat) (sp : Int) (a : Nat) L' S' fi fr ai al, (isK E.1 a 0 N && isK E.1 b 0 N && Nat.ble (wsum S') 8) = true → (0 ≤ n ∧ 0 ≤ sp ∧ 0 ≤ dp ∧ sp + n ≤ ((shp E.1 a).2 : Int) ∧ dp + n ≤ ((shp E.1 b).2 : Int)) → X np L' S' N fi fr (cpR ai a sp.toNat b dp.toNat n.toNat) al → Y pc L' (.inl n :: .inl dp :: .inr (.inl (some b)) :: .inl sp :: .inr (.inl (some a)) :: S') N fi fr ai al) (hn : HN E ρ nx X r) (hM : 10 ≤ E.1 ∨ 233 ≤ N) (hz : zi N T) (h : a_cpy np E nx iv pc L S N T = some r) : GG E ρ Y r pc L S N T := by
  unfold a_cpy at h
  revert h
  split
  · rename_i n dp b sp a S0
    intro h
    obtain ⟨h2, h⟩ := bif_sn h
    obtain ⟨hk, h2⟩ := and_tt h2
    obtain ⟨hc, h2⟩ := and_tt h2
    obtain ⟨hc12, hc3⟩ := and_tt hc
    obtain ⟨hc1, hc2⟩ := and_tt hc12
    obtain ⟨h3, h4⟩ := and_tt h2
    obtain ⟨h31, h33⟩ := and_tt h3
    obtain ⟨h31, h32⟩ := and_tt h31
    obtain ⟨h41, h42⟩ := and_tt h4
    have q1 := ilt_nf h31
    have q2 := ilt_nf h32
    have q3 := ilt_nf h33
    have q4 := ilt_nf h41
    have q5 := ilt_nf h42
    have q1 : 0 ≤ n := q1
    have q2 : 0 ≤ sp := q2
    have q3 : 0 ≤ dp := q3
    have q4 : sp + n ≤ ((shp E.1 a).2 : Int) := q4
    have q5 : dp + n ≤ ((shp E.1 b).2 : Int) := q5
    have hN := n_le hn h256 h hM
    obtain ⟨hk1, hw⟩ := and_tt hk
    obtain ⟨hka, hkb⟩ := and_tt hk1
    obtain ⟨ga, ga2⟩ := isK_of hka hM
    obtain ⟨gb, gb2⟩ := isK_of hkb hM
    have za := hS a (by omega)
    have zb := hS b (by omega)
    refine gg_step (hn _ _ _ _ _ h hM (zi_cp hz hN gb (by omega))) (Nat.le_refl _) fun L' S' fi fr ai al hL hS' hh => ?_
    obtain ⟨x, t, rfl, hx, ht1⟩ := sr_inl hS'
    obtain ⟨y, t, rfl, hy, ht2⟩ := sr_inl ht1
    obtain ⟨t, rfl, ht3⟩ := sr_inr ht2
    obtain ⟨w, t, rfl, hw', ht4⟩ := sr_inl ht3
    obtain ⟨t, rfl, ht5⟩ := sr_inr ht4
    cases gm_c hc1 hx
    cases gm_c hc3 hy
    cases gm_c hc2 hw'
    exact ⟨L', t, fi, fr, cpR ai a sp.toNat b dp.toNat n.toNat, al, hL, ht5, hp_cp hh hN ga gb ga2 gb2 (by omega) (by omega), hY _ _ _ _ _ _ _ _ _ _ _ (by rw [sr_wsum ht5]; exact hk) ⟨q1, q2, q3, q4, q5⟩⟩
  · exact fun h => nomatch h
theorem s_obj (hY : ∀ o L' S' fi fr ai al, Nat.ble (wsum S') 8 = true → X np L' S' N fi fr ai al → Y pc L' (.inr (.inl (some o)) :: S') N fi fr ai al) (hn : HN E ρ nx X r) (hM : 10 ≤ E.1 ∨ 233 ≤ N) (hz : zi N T) (h : a_obj np E nx iv pc L S N T = some r) : GG E ρ Y r pc L S N T := by
  unfold a_obj at h
  revert h
  split
  · rename_i o S0
    intro h
    obtain ⟨hw, h⟩ := bif_sn h
    refine gg_step (hn _ _ _ _ _ h hM hz) (Nat.le_refl _) fun L' S' fi fr ai al hL hS' hh => ?_
    obtain ⟨t, rfl, ht1⟩ := sr_inr hS'
    exact ⟨L', t, fi, fr, ai, al, hL, ht1, hh, hY _ _ _ _ _ _ _ (by rw [sr_wsum ht1]; exact hw)⟩
  · exact fun h => nomatch h
end Arms2
section Arms3
variable {E : eE} {ρ : Nat → Int} {scL : Nat} {scX : Nat → Int} {nx : nt} {iv : ivt} {K : ct} {ex : xt} {P : ot} {bz : Bool} {X : kt} {r : rs} {pc np N : Nat} {L : List (Option av)} {S : List av} {T : Tr 32}
theorem s_nat {y a b c d : Nat} {tl : List Nat} {i : Instr} (hi : ∀ L' S' N fi fr ai al, nat4 E.1 X y np L' S' N fi fr ai al → st E.1 K ex P r.2.1 bz scL scX X (i, np, a, b, c, d, tl) pc L' S' N fi fr ai al)
    (h256 : r.2.1 ≤ 256) (hS : ∀ i, i < 256 → (shp E.1 i).2 ≤ 8388608) (hn : HN E ρ nx X r) (hM : 10 ≤ E.1 ∨ 233 ≤ N) (hz : zi N T) (h : a_nat y np E nx iv pc L S N T = some r) : GG E ρ (st E.1 K ex P r.2.1 bz scL scX X (i, np, a, b, c, d, tl)) r pc L S N T := by
  unfold a_nat at h
  revert h
  split
  · intro h
    refine s_min (X := X) (np := np) (fun w z L' S' fi fr ai al h1 h2 q => hi _ _ _ _ _ _ _ ?_) hn hM hz h
    show (match Nat.ble (wsum S') 8 with | true => (rg z ∧ rg w) ∧ X np L' (.inl (if z < w then z else w) :: S') N fi fr ai al | false => False)
    rw [h1]
    exact ⟨h2, q⟩
  · intro h
    refine s_max (X := X) (np := np) (fun w z L' S' fi fr ai al h1 h2 q => hi _ _ _ _ _ _ _ ?_) hn hM hz h
    show (match Nat.ble (wsum S') 8 with | true => (rg z ∧ rg w) ∧ X np L' (.inl (if z < w then w else z) :: S') N fi fr ai al | false => False)
    rw [h1]
    exact ⟨h2, q⟩
  · intro h
    refine s_cpy (X := X) (np := np) h256 hS (fun n dp b sp a L' S' fi fr ai al h1 h2 q => hi _ _ _ _ _ _ _ ?_) hn hM hz h
    show (match isK E.1 a 0 N && isK E.1 b 0 N && Nat.ble (wsum S') 8 with | true => (0 ≤ n ∧ 0 ≤ sp ∧ 0 ≤ dp ∧ sp + n ≤ ((shp E.1 a).2 : Int) ∧ dp + n ≤ ((shp E.1 b).2 : Int)) ∧ X np L' S' N fi fr (cpR ai a sp.toNat b dp.toNat n.toNat) al | false => False)
    rw [h1]
    exact ⟨h2, q⟩
  · intro h
    refine s_obj (X := X) (np := np) (fun o L' S' fi fr ai al h1 q => hi _ _ _ _ _ _ _ ?_) hn hM hz h
    show (match Nat.ble (wsum S') 8 with | true => X np L' S' N fi fr ai al | false => False)
    rw [h1]
    exact q
  · exact fun h => nomatch h
theorem s_irt {a b c d : Nat} {tl : List Nat} (hP : ∀ o' fi fr ai al, orr ρ r.1 o' → hp ρ E.1 r.2.1 r.2.2 fi fr ai al → P o' fi fr ai al) (hz : zi N T) (h : a_irt bz E nx iv pc L S N T = some r) : GG E ρ (st E.1 K ex P r.2.1 bz scL scX X (.ireturn, np, a, b, c, d, tl)) r pc L S N T := by
  unfold a_irt at h
  revert h
  split
  · rename_i z
    intro h
    rcases bif_some h with ⟨h1, h⟩ | ⟨h1, h⟩
    · obtain ⟨h01, h⟩ := bif_sn h
      cases h
      have h01 : z = 0 ∨ z = 1 := by
        cases e1 : ieq z (Int.ofNat 0)
        · rw [e1] at h01
          exact Or.inr ((ieq_iff _ _).mp h01)
        · exact Or.inl ((ieq_iff _ _).mp e1)
      have hc : cnc z = true := by rcases h01 with rfl | rfl <;> rfl
      subst h1
      refine ⟨Nat.le_refl _, hz, fun L' S' fi fr ai al hL hS' hh => ?_⟩
      obtain ⟨x, t, rfl, hx, ht1⟩ := sr_inl hS'
      cases sr_nil ht1
      have e : x = z := gm_c hc hx
      exact ⟨e ▸ h01, rfl, hP _ _ _ _ _ hx hh⟩
    · cases h
      subst h1
      refine ⟨Nat.le_refl _, hz, fun L' S' fi fr ai al hL hS' hh => ?_⟩
      obtain ⟨x, t, rfl, hx, ht1⟩ := sr_inl hS'
      cases sr_nil ht1
      exact ⟨rfl, hP _ _ _ _ _ hx hh⟩
  · exact fun h => nomatch h
theorem s_art {a b c d : Nat} {tl : List Nat} (hP : ∀ o' fi fr ai al, orr ρ r.1 o' → hp ρ E.1 r.2.1 r.2.2 fi fr ai al → P o' fi fr ai al) (hz : zi N T) (h : a_art E nx iv pc L S N T = some r) : GG E ρ (st E.1 K ex P r.2.1 bz scL scX X (.areturn, np, a, b, c, d, tl)) r pc L S N T := by
  unfold a_art at h
  revert h
  split
  · rename_i z
    intro h
    cases h
    refine ⟨Nat.le_refl _, hz, fun L' S' fi fr ai al hL hS' hh => ?_⟩
    obtain ⟨t, rfl, ht1⟩ := sr_inr hS'
    cases sr_nil ht1
    exact ⟨rfl, hP _ _ _ _ _ rfl hh⟩
  · exact fun h => nomatch h
theorem s_ret {a b c d : Nat} {tl : List Nat} (hP : ∀ o' fi fr ai al, orr ρ r.1 o' → hp ρ E.1 r.2.1 r.2.2 fi fr ai al → P o' fi fr ai al) (hz : zi N T) (h : a_ret E nx iv pc L S N T = some r) : GG E ρ (st E.1 K ex P r.2.1 bz scL scX X (.return_, np, a, b, c, d, tl)) r pc L S N T := by
  unfold a_ret at h
  revert h
  split
  · intro h
    cases h
    refine ⟨Nat.le_refl _, hz, fun L' S' fi fr ai al hL hS' hh => ?_⟩
    cases sr_nil hS'
    exact ⟨rfl, hP _ _ _ _ _ trivial hh⟩
  · exact fun h => nomatch h
theorem hp_le {md M : Nat} {fi : tF} {fr : tR} {ai : tF} {al : tL} (h : hp ρ md N T fi fr ai al) (hz : zi N T) (hk : (shp md N).1 = 9) (hM : M = N + 1) : hp ρ md M T fi fr ai al := by
  subst hM
  intro i hi k hkk
  by_cases e : i = N
  · subst e
    exact ⟨fun q => by omega, fun q => by omega, fun q => by omega⟩
  · exact h i (by omega) k hkk
theorem s_thr {x a b c d : Nat} {tl : List Nat} {ci : Nat} (ha : Nat.ble 100 a = true) (hx : x = a - 100) (hP : ∀ o' fi fr ai al, orr ρ r.1 o' → hp ρ E.1 r.2.1 r.2.2 fi fr ai al → P o' fi fr ai al) (hz : zi N T) (h : a_thr x E nx iv pc L S N T = some r) : GG E ρ (st E.1 K ex P r.2.1 bz scL scX X (.new ci, np, a, b, c, d, tl)) r pc L S N T := by
  unfold a_thr at h
  obtain ⟨h1, h⟩ := bif_sn h
  obtain ⟨hk, hw⟩ := and_tt h1
  cases h
  subst hx
  refine ⟨Nat.le_succ _, zi_le hz (Nat.le_succ _), fun L' S' fi fr ai al hL hS' hh => ?_⟩
  show (match Nat.ble 100 a with
      | true => (match Nat.beq (shp E.1 N).1 9 && Nat.ble (wsum S') 60 with
        | true => N + 1 = N + 1 ∧ P (.inr (a - 100)) fi fr ai al
        | false => False)
      | false => _)
  rw [ha]
  show (match Nat.beq (shp E.1 N).1 9 && Nat.ble (wsum S') 60 with
        | true => N + 1 = N + 1 ∧ P (.inr (a - 100)) fi fr ai al
        | false => False)
  rw [sr_wsum hS', hk, hw]
  exact ⟨rfl, hP _ _ _ _ _ rfl (hp_le hh hz (Nat.eq_of_beq_eq_true hk) rfl)⟩
end Arms3
