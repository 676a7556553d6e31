/-! runs without script; the law's run -/
theorem sl_ok {md : Nat} {ρ : Nat → Int} {scL : Nat} {scX : Nat → Int} : EO (slE md) ρ scL scX := ⟨fun t h => absurd (show (1 : Int) ≤ 0 from h) (by decide : ¬ (1 : Int) ≤ 0), fun h => absurd (show 999 ≤ 6 from h) (by decide : ¬ 999 ≤ 6)⟩
theorem shp_sm8 : (∀ i, i < 256 → (shp 0 i).2 ≤ 8388608) ∧ (∀ i, i < 256 → (shp 1 i).2 ≤ 8388608) ∧ (∀ i, i < 256 → (shp 2 i).2 ≤ 8388608) := by
  refine ⟨?_, ?_, ?_⟩ <;> decide +kernel
theorem shp_le {md : Nat} (hmd : md < 3) : ∀ i, i < 256 → (shp md i).2 ≤ 8388608 := by
  rcases (show md = 0 ∨ md = 1 ∨ md = 2 by omega) with rfl | rfl | rfl
  · exact shp_sm8.1
  · exact shp_sm8.2.1
  · exact shp_sm8.2.2
theorem shp_le0 {md : Nat} (hmd : md < 3) : ∀ i, i < 256 → (shp (10 + md) i).2 ≤ 8388608 := fun i hi => by rw [shp_10 hmd]; exact shp_le hmd i hi
theorem sb_sl {E : eE} {ρ : Nat → Int} {scL : Nat} {scX : Nat → Int} {g : Nat} {sel : Nat → Bool} (hS : ∀ i, i < 256 → (shp E.1 i).2 ≤ 8388608) : SB E ρ scL scX (slS E.1 g sel) := by
  intro d y as N T r h hw hM hz h256
  obtain ⟨-, h⟩ := bif_sn (h : (bif sel y then ev (slE E.1) no_st g d y 0 (ent as (mt y).2.2.1) [] N T else none) = some r)
  have h1 := ev_sound (E := slE E.1) (ρ := ρ) (scL := scL) (scX := scX) sl_ok hS sb_no g d y 0 _ _ N T r h h256 hM hz
  have g0 := h1 (fun _ _ _ _ _ => True) (fun _ _ _ _ _ _ _ => trivial)
  refine ⟨g0.1, g0.2.1, fun as' fi fr ai al ha hh P hP => ⟨⟨g0.1, by rw [sr_wsum ha]; exact hw⟩, (h1 P hP).2.2 _ _ _ _ _ _ (sr_ent _ ha) trivial hh⟩⟩
theorem hp_10 {ρ : Nat → Int} {md N : Nat} {T : Tr 32} {fi : tF} {fr : tR} {ai : tF} {al : tL} (hmd : md < 3) : hp ρ (10 + md) N T fi fr ai al ↔ hp ρ md N T fi fr ai al := by
  unfold hp
  constructor
  · intro h i hi k hk
    have := h i hi k hk
    rw [shp_10 hmd] at this
    exact this
  · intro h i hi k hk
    rw [shp_10 hmd]
    exact h i hi k hk
/-- the law's run, evaluated -/
theorem evl_sound {md n : Nat} {scA : Nat → Int} {tr : Nat → Int × Int} {opk : Int} {ρ : Nat → Int} {scL : Nat} {scX : Nat → Int} (hmd : md < 3) (hE : EO (md, n, scA, tr, opk) ρ scL scX) {st0 st1 : stt} (hst0 : SB (10 + md, n, scA, tr, opk) ρ scL scX st0) (hst1 : SB (md, n, scA, tr, opk) ρ scL scX st1) {g d : Nat} :
    ∀ f pc L S N T r, evl (10 + md, n, scA, tr, opk) (md, n, scA, tr, opk) st0 st1 g (d + 1) f pc L S N T = some r → r.2.1 ≤ 256 → zi N T → ∀ P : ot, (∀ o' fi fr ai al, orr ρ r.1 o' → hp ρ (10 + md) r.2.1 r.2.2 fi fr ai al → P o' fi fr ai al) → GG (10 + md, n, scA, tr, opk) ρ (Rc (10 + md) (KL md scL scX (d + 1)) (mt 248) P r.2.1 scL scX) r pc L S N T
  := by
  intro f
  induction f with
  | zero => intro pc L S N T r h; exact nomatch (h : (none : Option rs) = some r)
  | succ f ih =>
    intro pc L S N T r h h256 hz P hP
    have hE0 : EO (10 + md, n, scA, tr, opk) ρ scL scX := hE
    have hS1 := shp_le hmd
    have hS0 := shp_le0 hmd
    have hn : HN (10 + md, n, scA, tr, opk) ρ (evl (10 + md, n, scA, tr, opk) (md, n, scA, tr, opk) st0 st1 g (d + 1) f) (Rc (10 + md) (KL md scL scX (d + 1)) (mt 248) P r.2.1 scL scX) r := fun pc L S N T h _ hz => ih pc L S N T r h h256 hz P hP
    have hcl : CLS (10 + md, n, scA, tr, opk) ρ (fun d' y' as N T => bif Nat.ble 233 N then clv st1 (ev (md, n, scA, tr, opk) st1 g) d' y' as N T else clv st0 (ev (10 + md, n, scA, tr, opk) st0 g) d' y' as N T) d (KL md scL scX (d + 1)) := by
      intro y as N T r h hw hM hz h256
      rcases bif_some h with ⟨hN, h⟩ | ⟨hN, h⟩
      · have hN' := Nat.le_of_ble_eq_true hN
        obtain ⟨c1, c2, c3⟩ := clv_sound (E := (md, n, scA, tr, opk)) hst1 (fun y L S N T r => ev_sound (E := (md, n, scA, tr, opk)) hE hS1 hst1 g d y 0 L S N T r) y as N T r h hw (Or.inr hN') hz h256
        refine ⟨c1, c2, fun as' fi fr ai al ha hh P hP => ?_⟩
        unfold KL
        rw [hN]
        exact c3 as' fi fr ai al ha ((hp_10 hmd).mp hh) P (fun o' fi fr ai al ho hh => hP _ _ _ _ _ ho ((hp_10 hmd).mpr hh))
      · obtain ⟨c1, c2, c3⟩ := clv_sound (E := (10 + md, n, scA, tr, opk)) hst0 (fun y L S N T r => ev_sound (E := (10 + md, n, scA, tr, opk)) hE0 hS0 hst0 g d y 0 L S N T r) y as N T r h hw hM hz h256
        refine ⟨c1, c2, fun as' fi fr ai al ha hh P hP => ?_⟩
        unfold KL
        rw [hN]
        exact c3 as' fi fr ai al ha hh P hP
    have hi := cal_sound (y := 248) hcl h256 hn hP
    have h : (dcd 248 pc).1 (10 + md, n, scA, tr, opk) (evl (10 + md, n, scA, tr, opk) (md, n, scA, tr, opk) st0 st1 g (d + 1) f) (cal (10 + md, n, scA, tr, opk) (fun d' y' as N T => bif Nat.ble 233 N then clv st1 (ev (md, n, scA, tr, opk) st1 g) d' y' as N T else clv st0 (ev (10 + md, n, scA, tr, opk) st0 g) d' y' as N T) (evl (10 + md, n, scA, tr, opk) (md, n, scA, tr, opk) st0 st1 g (d + 1) f) (d + 1) 248) pc L S N T = some r := h
    unfold dcd at h
    cases e : Nat.ble (mt 248).2.1 pc
    · rw [e] at h
      obtain ⟨g1, g2, g3⟩ := arms_sound (P := P) (X := Rc (10 + md) (KL md scL scX (d + 1)) (mt 248) P r.2.1 scL scX) hE0 h256 hS0 hn hi hP ((mt 248).1 pc) (Or.inl (Nat.le_add_right 10 md)) hz h
      refine ⟨g1, g2, fun L' S' fi fr ai al hL hS' hh => (Rc_clo (KL_mono _ _ _ _)).1 _ _ _ _ _ _ _ _ ?_⟩
      unfold stp
      rw [e]
      exact g3 L' S' fi fr ai al hL hS' hh
    · rw [e] at h
      exact nomatch (h : (none : Option rs) = some r)
theorem zi_t0 {N : Nat} : zi N (t0 32) := fun _ _ _ _ _ => tg_t0 32 _
theorem hp_t0 {ρ : Nat → Int} {md : Nat} : hp ρ md 0 (t0 32) z0 z1 z0 z2 := fun _ h => absurd h (Nat.not_lt_zero _)
noncomputable def okZ (r : rs) : Bool := match r.1 with
  | .inl (some (.inl z)) => ieq z (Int.ofNat 1) && Nat.ble r.2.1 244
  | _ => false
/-- the evaluator's word for the law: it answers 1 -/
noncomputable def okL (md n : Nat) (scA : Nat → Int) (tr : Nat → Int × Int) (opk : Int) (st0 st1 : stt) (g d f : Nat) : Bool :=
  match evl (10 + md, n, scA, tr, opk) (md, n, scA, tr, opk) st0 st1 g (d + 1) f 0 (ent [.inr (.inl (some 999999))] 7) [] 0 (t0 32) with
  | some r => okZ r
  | none => false
theorem okL_run {md n : Nat} {scA : Nat → Int} {tr : Nat → Int × Int} {opk : Int} {ρ : Nat → Int} {scL : Nat} {scX : Nat → Int} (hmd : md < 3) (hE : EO (md, n, scA, tr, opk) ρ scL scX) {st0 st1 : stt} (hst0 : SB (10 + md, n, scA, tr, opk) ρ scL scX st0) (hst1 : SB (md, n, scA, tr, opk) ρ scL scX st1) {g d f : Nat} (h : okL md n scA tr opk st0 st1 g d f = true) :
    ∃ Nf, Nf ≤ 244 ∧ Rc (10 + md) (KL md scL scX (d + 1)) (mt 248) PL Nf scL scX 0 (ent [.inr (.inl (some 999999))] 7) [] 0 z0 z1 z0 z2 := by
  cases hq : evl (10 + md, n, scA, tr, opk) (md, n, scA, tr, opk) st0 st1 g (d + 1) f 0 (ent [.inr (.inl (some 999999))] 7) [] 0 (t0 32) with
  | none =>
    unfold okL at h
    rw [hq] at h
    exact nomatch h
  | some r =>
    have h : okZ r = true := by
      unfold okL at h
      rw [hq] at h
      exact h
    obtain ⟨o, N, T⟩ := r
    have key : o = .inl (some (.inl 1)) ∧ N ≤ 244 := by
      rcases o with (_ | (z | w)) | x
      · exact nomatch h
      · obtain ⟨h1, h2⟩ := and_tt (h : (ieq z (Int.ofNat 1) && Nat.ble N 244) = true)
        have h1 := (ieq_iff _ _).mp h1
        subst h1
        exact ⟨rfl, Nat.le_of_ble_eq_true h2⟩
      · exact nomatch h
      · exact nomatch h
    obtain ⟨ho, h2⟩ := key
    subst ho
    refine ⟨N, h2, ?_⟩
    have := evl_sound hmd hE hst0 hst1 f _ _ _ _ _ _ hq (Nat.le_trans h2 (by omega)) zi_t0 PL (fun o' fi fr ai al ho _ => ?_)
    · exact this.2.2 (ent [.inr (.inl (some 999999))] 7) [] z0 z1 z0 z2 (sr_ent (as := [.inr (.inl (some 999999))]) (as' := [.inr (.inl (some 999999))]) 7 ⟨rfl, trivial⟩) trivial hp_t0
    · rcases o' with (_ | v) | x
      · exact (ho : False).elim
      · rcases v with x | b
        · show _ = _
          rw [gm_c rfl (ho : gm ρ (Int.ofNat 1) x)]
        · exact (ho : False).elim
      · exact (ho : False).elim
