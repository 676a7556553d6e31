/-! calls of the law by cases, with stubs -/
/-- a stub of the time before both objects stand: from this heap to that one -/
noncomputable def stY (d0 y0 : Nat) (as0 : List av) (N0 : Nat) (T0 : Tr 32) (o : Option av ⊕ Nat) (N' : Nat) (U : Tr 32) : stt := fun d y as N T =>
  bif Nat.beq y y0 && (Nat.ble d0 d && (Nat.beq N N0 && (aeq as as0 && teq 32 T T0))) then some (o, N', U) else none
theorem sb_Y {md g d0 y0 : Nat} {as0 : List av} {N0 : Nat} {T0 : Tr 32} {o : Option av ⊕ Nat} {N' : Nat} {U : Tr 32} (hmd : 10 ≤ md ∧ md < 13) (h : okX md g d0 y0 as0 N0 T0 o N' U = true) (hN : N' ≤ 256) (hz0 : zi N0 T0) (hzU : zi N' U) {E : eE} (hE : E.1 = md) {ρ : Nat → Int} {scL : Nat} {scX : Nat → Int} : SB E ρ scL scX (stY d0 y0 as0 N0 T0 o N' U) := by
  intro d y as N T r hr hw hM hz h256
  obtain ⟨h1, h2⟩ := bif_sn hr
  obtain ⟨hy, h1⟩ := and_tt h1
  obtain ⟨hd, h1⟩ := and_tt h1
  obtain ⟨hNN, h1⟩ := and_tt h1
  obtain ⟨ha, hT⟩ := and_tt h1
  have hy := Nat.eq_of_beq_eq_true hy
  have hd := Nat.le_of_ble_eq_true hd
  have hNN := Nat.eq_of_beq_eq_true hNN
  have ha := aeq_ok ha
  have h2 := Option.some.inj h2
  subst hy
  subst hNN
  subst ha
  subst h2
  have hT := teq_ok 32 _ _ hT
  have hx := okX_run (Or.inr hmd) h hw (Or.inl hmd.1) hz0 hN (ρ := ρ) (scL := scL) (scX := scX)
  refine ⟨hx.1, hzU, fun as' fi fr ai al hs hh P hP => ?_⟩
  rw [hE] at hh hP ⊢
  refine Call_ge (by omega) (hx.2 as' fi fr ai al hs ?_ P hP)
  intro i hi k hk
  have := hh i hi k hk
  rw [← hT, ← hT]
  exact this
theorem zi_T0 {N : Nat} (hN : 233 ≤ N) (hN2 : N ≤ 256) {l : List (Nat × Int)} (h : lok N l = true) : zi N (T_0 l) := by
  have e : kap = ky 232 0 := by unfold ky kap; omega
  unfold T_0
  rw [e]
  exact zi_ts (zi_bld hN2 zi_t0 l h) (by omega) hN2 (by omega)
theorem tg_T0 {l : List (Nat × Int)} {k : Nat} (hk : k < 4294967296) : tg 32 (T_0 l) k = if k = kap then tok9 else tg 32 (bld (t0 32) l) k := by
  have e32 : (2 : Nat) ^ 32 = 4294967296 := by decide
  exact tg_ts 32 _ _ _ _ (by rw [e32]; unfold kap; omega) (by rw [e32]; exact hk)
theorem ntk_T0 {N : Nat} (hN2 : N ≤ 256) {l : List (Nat × Int)} (h : lok N l = true) : ∀ k, k < 4294967296 → k ≠ kap → ntk (tg 32 (T_0 l) k) := by
  intro k h1 h2
  rw [tg_T0 h1, if_neg h2]
  exact ntk_bld hN2 (fun k _ => by rw [tg_t0]; exact ntk_0) l h k h1
/-- a stub between lists, of a method without arguments and answer -/
theorem sb_V {md g d0 y0 c : Nat} {l u : List (Nat × Int)} (hmd : md < 3) (h : okX md g d0 y0 [.inr (.inl (some c))] 233 (T_0 l) (.inl none) 233 (T_0 u) = true) (hl : lok 233 l = true) (hu : lok 233 u = true) {E : eE} (hE : E.1 = md) {ρ : Nat → Int} {scL : Nat} {scX : Nat → Int} : SB E ρ scL scX (stX d0 y0 [.inr (.inl (some c))] 233 (T_0 l) (.inl none) 233 (T_0 u)) := by
  have hk : kap < 4294967296 := by unfold kap; omega
  refine sb_X hmd h (by omega) (by omega) (zi_T0 (by omega) (by omega) hl) (zi_T0 (by omega) (by omega) hu) (ntk_T0 (N := 233) (by omega) hl) (ntk_T0 (N := 233) (by omega) hu) (by rw [tg_T0 hk, if_pos rfl]) (by rw [tg_T0 hk, if_pos rfl]) ?_ ?_ hE
  · intro ρ ρ' o' ho
    rcases o' with (_ | v) | x
    · trivial
    · exact (ho : False).elim
    · exact (ho : False).elim
  · intro ρ ρ' as' hs
    obtain ⟨t, rfl, ht⟩ := sr_inr hs
    cases sr_nil ht
    exact ⟨rfl, trivial⟩
noncomputable def okU (md : Nat) (st0 st1 : stt) (op : Int) : List (List (Int × Int)) → List (Int × Int) → Bool
  | [], acc => okL md 6 (scO acc) (trO acc) op st0 st1 20000 30 2000
  | A :: r, acc => A.all (fun p => okU md st0 st1 op r (acc ++ [p]))
theorem okU_run {scX : Nat → Int} (hI : ∀ j, -2147483648 ≤ scX j ∧ scX j ≤ 2147483647) {md : Nat} (hmd : md < 3) {st0 st1 : stt} (h0 : ∀ {E : eE} {ρ : Nat → Int}, E.1 = 10 + md → SB E ρ 6 scX st0) (h1 : ∀ {E : eE} {ρ : Nat → Int}, E.1 = md → SB E ρ 6 scX st1) {op : Int} (hop : b32 (fun p q => p &&& q) (scX 0) 63 = op) (hc : cnc op = true) : ∀ (As : List (List (Int × Int))) (acc : List (Int × Int)), okU md st0 st1 op As acc = true → Cov scX As (1 + acc.length) → InR scX acc 1 → Good scX
  | [], acc, h, _, hr => by
    obtain ⟨Nf, g1, g2⟩ := okL_run (g := 20000) (d := 30) (f := 2000) hmd (eo_of hI hr hop hc) (st0 := st0) (st1 := st1) (h0 rfl) (h1 rfl) h
    exact ⟨md, hmd, Nf, g1, g2⟩
  | A :: r, acc, h, ⟨⟨p, hp, hx⟩, hcov⟩, hr => by
    have h2 := List.all_eq_true.mp (h : A.all (fun p => okU md st0 st1 op r (acc ++ [p])) = true) p hp
    refine okU_run hI hmd h0 h1 hop hc r (acc ++ [p]) h2 ?_ (InR_app acc 1 hr hx)
    rw [List.length_append, List.length_singleton, ← Nat.add_assoc]
    exact hcov
/-- both constructors; the ways through a fresh day -/
noncomputable def sC : stt := stO (stY 20 63 [.inr (.inl (some 0))] 1 (t0 32) (.inl none) 54 T_63) (stY 20 124 [.inr (.inl (some 54))] 55 T_63 (.inl none) 232 T_124)
noncomputable def sD : stt := stO (stX 10 112 [.inr (.inl (some 0))] 233 (T_0 l_124) (.inl none) 233 (T_0 l_112)) (stX 10 157 [.inr (.inl (some 54))] 233 (T_0 l_112) (.inl none) 233 (T_0 l_157))
theorem sC_ok {E : eE} {ρ : Nat → Int} {scL : Nat} {scX : Nat → Int} (hE : E.1 = 10 + 0) : SB E ρ scL scX sC := by
  obtain ⟨h1, h2⟩ := and_tt lok_all
  have h2 := (and_tt h2).1
  exact sb_O (sb_Y ⟨by omega, by omega⟩ kx_63 (by omega) zi_t0 (zi_bld (by omega) zi_t0 _ h1) hE) (sb_Y ⟨by omega, by omega⟩ kx_124 (by omega) (zi_le (zi_bld (N := 54) (by omega) zi_t0 _ h1) (by omega)) (zi_bld (by omega) zi_t0 _ h2) hE)
theorem sD_ok {E : eE} {ρ : Nat → Int} {scL : Nat} {scX : Nat → Int} (hE : E.1 = 0) : SB E ρ scL scX sD := by
  obtain ⟨h1, h2⟩ := and_tt lok_all
  obtain ⟨h3, h4⟩ := and_tt (and_tt h2).2
  exact sb_O (sb_V (by omega) kx_112 lok_124 h3 hE) (sb_V (by omega) kx_157 h3 h4 hE)
set_option maxRecDepth 1000000 in
theorem kd_12 : okU 0 sC sD 12 [rI 0 6] [] = true := by decide +kernel
