/-! HEAPS WRITTEN DOWN: a run from one written heap to another, and stubs made of such runs -/
theorem inv_K {md : Nat} {K K' : ct} {ex : xt} {Nf : Nat} {nx : kt} (hK : ∀ y as N fi fr ai al N' P, K y as N fi fr ai al N' P → K' y as N fi fr ai al N' P)
    {y n rc pc np : Nat} {L : List (Option av)} {S : List av} {N : Nat} {fi : tF} {fr : tR} {ai : tF} {al : tL} (h : inv md K ex Nf nx y n rc pc np L S N fi fr ai al) : inv md K' ex Nf nx y n rc pc np L S N fi fr ai al := by
  refine spl_mono (fun a S' h => ?_) _ _ _ h
  revert h
  split
  · rintro ⟨N', h1, h2⟩
    exact ⟨N', h1, hK _ _ _ _ _ _ _ _ _ h2⟩
  · exact id
set_option maxHeartbeats 4000000 in
theorem st_K {md : Nat} {K K' : ct} {ex : xt} {P : ot} {Nf : Nat} {bz : Bool} {scL : Nat} {scX : Nat → Int} {nx : kt} (hK : ∀ y as N fi fr ai al N' P, K y as N fi fr ai al N' P → K' y as N fi fr ai al N' P)
    {e : en} {pc : Nat} {L : List (Option av)} {S : List av} {N : Nat} {fi : tF} {fr : tR} {ai : tF} {al : tL} (h : st md K ex P Nf bz scL scX nx e pc L S N fi fr ai al) : st md K' ex P Nf bz scL scX nx e pc L S N fi fr ai al := by
  obtain ⟨i, np, a, b, c, d, tl⟩ := e
  revert h
  unfold st
  dsimp only
  split
  all_goals (repeat' split)
  all_goals first
    | exact id
    | exact inv_K hK
theorem Rc_K {md : Nat} {K K' : ct} {m : mr} {P : ot} {Nf scL : Nat} {scX : Nat → Int} (hK : ∀ y as N fi fr ai al N' P, K y as N fi fr ai al N' P → K' y as N fi fr ai al N' P) {pc : Nat} {L : List (Option av)} {S : List av} {N : Nat} {fi : tF} {fr : tR} {ai : tF} {al : tL}
    (h : Rc md K m P Nf scL scX pc L S N fi fr ai al) : Rc md K' m P Nf scL scX pc L S N fi fr ai al := fun X hX => h X ⟨fun pc L S N fi fr ai al q => hX.1 _ _ _ _ _ _ _ _ (by
    unfold stp at q ⊢
    revert q
    split
    · exact id
    · exact st_K hK), hX.2⟩
theorem Call_up {md scL : Nat} {scX : Nat → Int} : ∀ d y as N fi fr ai al N' P, Call md scL scX d y as N fi fr ai al N' P → Call md scL scX (d + 1) y as N fi fr ai al N' P
  | 0, _, _, _, _, _, _, _, _, _, h => h.elim
  | d + 1, _, _, _, _, _, _, _, _, _, h => ⟨h.1, Rc_K (Call_up d) h.2⟩
theorem Call_ge {md scL : Nat} {scX : Nat → Int} {d e : Nat} (hde : d ≤ e) {y : Nat} {as : List av} {N : Nat} {fi : tF} {fr : tR} {ai : tF} {al : tL} {N' : Nat} {P : ot} (h : Call md scL scX d y as N fi fr ai al N' P) : Call md scL scX e y as N fi fr ai al N' P := by
  obtain ⟨k, rfl⟩ := Nat.exists_eq_add_of_le hde
  clear hde
  induction k with
  | zero => exact h
  | succ k ih => exact Call_up _ _ _ _ _ _ _ _ _ _ ih
noncomputable def tz (n : Nat) : Tr n → Bool := Nat.rec (motive := fun n => Tr n → Bool) (fun t => ieq t (Int.ofNat 0))
  (fun n ih t => match (t : Option (Tr n × Tr n)) with
    | none => true
    | some (a, b) => ih a && ih b) n
noncomputable def teq (n : Nat) : Tr n → Tr n → Bool := Nat.rec (motive := fun n => Tr n → Tr n → Bool) (fun t u => ieq t u)
  (fun n ih t u => match (t : Option (Tr n × Tr n)), (u : Option (Tr n × Tr n)) with
    | none, none => true
    | none, some (c, d) => tz n c && tz n d
    | some (a, b), none => tz n a && tz n b
    | some (a, b), some (c, d) => ih a c && ih b d) n
theorem tz_ok (n : Nat) : ∀ (t : Tr n), tz n t = true → ∀ k, tg n t k = 0 := by
  induction n with
  | zero => intro t h k; exact (ieq_iff _ _).mp h
  | succ n ih =>
    intro t h k
    cases (t : Option (Tr n × Tr n)) with
    | none => rfl
    | some p =>
      obtain ⟨h1, h2⟩ := and_tt (h : (tz n p.1 && tz n p.2) = true)
      show (bif Nat.ble (2 ^ n) k then tg n p.2 (k - 2 ^ n) else tg n p.1 k) = 0
      cases Nat.ble (2 ^ n) k
      · exact ih _ h1 _
      · exact ih _ h2 _
theorem teq_ok (n : Nat) : ∀ (t u : Tr n), teq n t u = true → ∀ k, tg n t k = tg n u k := by
  induction n with
  | zero => intro t u h k; exact (ieq_iff _ _).mp h
  | succ n ih =>
    intro t u h k
    cases (t : Option (Tr n × Tr n)) with
    | none =>
      cases (u : Option (Tr n × Tr n)) with
      | none => rfl
      | some q =>
        obtain ⟨h1, h2⟩ := and_tt (h : (tz n q.1 && tz n q.2) = true)
        show 0 = (bif Nat.ble (2 ^ n) k then tg n q.2 (k - 2 ^ n) else tg n q.1 k)
        cases Nat.ble (2 ^ n) k
        · exact (tz_ok n _ h1 _).symm
        · exact (tz_ok n _ h2 _).symm
    | some p =>
      cases (u : Option (Tr n × Tr n)) with
      | none =>
        obtain ⟨h1, h2⟩ := and_tt (h : (tz n p.1 && tz n p.2) = true)
        show (bif Nat.ble (2 ^ n) k then tg n p.2 (k - 2 ^ n) else tg n p.1 k) = 0
        cases Nat.ble (2 ^ n) k
        · exact tz_ok n _ h1 _
        · exact tz_ok n _ h2 _
      | some q =>
        obtain ⟨h1, h2⟩ := and_tt (h : (teq n p.1 q.1 && teq n p.2 q.2) = true)
        show (bif Nat.ble (2 ^ n) k then tg n p.2 (k - 2 ^ n) else tg n p.1 k) = (bif Nat.ble (2 ^ n) k then tg n q.2 (k - 2 ^ n) else tg n q.1 k)
        cases Nat.ble (2 ^ n) k
        · exact ih _ _ h1 _
        · exact ih _ _ h2 _
/-- the heap of a list -/
noncomputable def bld (T : Tr 32) : List (Nat × Int) → Tr 32 := List.rec (motive := fun _ => Tr 32) T (fun p _ ih => ts 32 ih p.1 p.2)
noncomputable def kap : Nat := 3892314112
noncomputable def tok9 : Int := Int.ofNat 1099511627785
/-- no token is there -/
def ntk (z : Int) : Prop := cnc z = true ∨ ilt z jk = false
noncomputable def lok (N : Nat) (l : List (Nat × Int)) : Bool := l.all (fun p => Nat.ble (Nat.succ p.1) (N * 16777216) && (cnc p.2 || ieq p.2 jk))
theorem ntk_0 : ntk 0 := Or.inl rfl
theorem ky_dm (k : Nat) : ky (k / 16777216) (k % 16777216) = k := by
  unfold ky
  omega
theorem zi_bld {N : Nat} (hN : N ≤ 256) {T : Tr 32} (hT : zi N T) : ∀ l : List (Nat × Int), lok N l = true → zi N (bld T l)
  | [], _ => hT
  | p :: l, h => by
    obtain ⟨h1, h2⟩ := and_tt (h : ((Nat.ble (Nat.succ p.1) (N * 16777216) && (cnc p.2 || ieq p.2 jk)) && lok N l) = true)
    have h3 := Nat.le_of_ble_eq_true (and_tt h1).1
    have ih := zi_bld hN hT l h2
    show zi N (ts 32 (bld T l) p.1 p.2)
    rw [← ky_dm p.1]
    exact zi_ts ih (by omega) hN (by omega)
theorem ntk_bld {N : Nat} (hN : N ≤ 256) {T : Tr 32} (hT : ∀ k, k < 4294967296 → ntk (tg 32 T k)) : ∀ l : List (Nat × Int), lok N l = true → ∀ k, k < 4294967296 → ntk (tg 32 (bld T l) k)
  | [], _ => hT
  | p :: l, h => by
    obtain ⟨h1, h2⟩ := and_tt (h : ((Nat.ble (Nat.succ p.1) (N * 16777216) && (cnc p.2 || ieq p.2 jk)) && lok N l) = true)
    obtain ⟨h3, h4⟩ := and_tt h1
    have h3 := Nat.le_of_ble_eq_true h3
    have ih := ntk_bld hN hT l h2
    intro k hk
    have e : (2 : Nat) ^ 32 = 4294967296 := by decide
    show ntk (tg 32 (ts 32 (bld T l) p.1 p.2) k)
    rw [tg_ts 32 _ _ _ _ (by rw [e]; omega) (by rw [e]; exact hk)]
    split
    · cases hc : cnc p.2
      · rw [hc] at h4
        have h4 := (ieq_iff _ _).mp h4
        rw [h4]
        exact Or.inr rfl
      · exact Or.inl hc
    · exact ih k hk
theorem gm_ntk {ρ ρ' : Nat → Int} {z x : Int} (h : ntk z) (hg : gm ρ z x) : gm ρ' z x := by
  refine ⟨hg.1, fun q1 q2 => ?_⟩
  rcases h with h | h
  · rw [h] at q1; exact nomatch q1
  · rw [h] at q2; exact nomatch q2
theorem gq_ntk {ρ ρ' : Nat → Int} {z : Int} {w : Int64} (h : ntk z) (hg : gq ρ z w) : gq ρ' z w := by
  refine ⟨hg.1, fun q1 q2 => ?_⟩
  rcases h with h | h
  · rw [h] at q1; exact nomatch q1
  · rw [h] at q2; exact nomatch q2
/-- another heap that agrees but at the long's place, where what was v is a token (or the other way) -/
theorem hp_swap {ρ ρ' : Nat → Int} {md N : Nat} {T U : Tr 32} {fi : tF} {fr : tR} {ai : tF} {al : tL} (hN : N ≤ 256) (hk : (shp md 232).1 = 2) (h : hp ρ md N T fi fr ai al)
    (hs : ∀ k, k < 4294967296 → k ≠ kap → tg 32 T k = tg 32 U k ∧ ntk (tg 32 U k)) (h9 : gq ρ (tg 32 T kap) (al 232 0) → gq ρ' (tg 32 U kap) (al 232 0)) : hp ρ' md N U fi fr ai al := by
  intro i hi k hkk
  obtain ⟨h1, h2, h3⟩ := h i hi k hkk
  have e2 := hs (kr i k) (by unfold kr; omega) (by unfold kr kap; omega)
  by_cases hc : i = 232 ∧ k = 0
  · obtain ⟨rfl, rfl⟩ := hc
    refine ⟨fun q => by omega, fun q => by omega, fun q => ?_⟩
    have e : ky 232 0 = kap := by unfold ky kap; omega
    rw [e] at h3 ⊢
    exact h9 (h3 q)
  · have e1 := hs (ky i k) (by unfold ky; omega) (by unfold ky kap; omega)
    refine ⟨fun q => ⟨?_, ?_⟩, fun q => ?_, fun q => ?_⟩
    · rw [e1.1] at h1
      exact gm_ntk e1.2 (h1 q).1
    · rw [← e2.1]
      exact (h1 q).2
    · rw [e1.1] at h2
      exact gm_ntk e1.2 (h2 q)
    · rw [e1.1] at h3
      exact gq_ntk e1.2 (h3 q)
noncomputable def oeq : (Option av ⊕ Nat) → (Option av ⊕ Nat) → Bool
  | .inl none, .inl none => true
  | .inl (some (.inl z)), .inl (some (.inl x)) => ieq z x
  | _, _ => false
theorem oeq_ok {o o' : Option av ⊕ Nat} (h : oeq o o' = true) : o = o' := by
  rcases o with (_ | (z | w)) | x <;> rcases o' with (_ | (z' | w')) | x' <;> first | rfl | exact nomatch (show false = true from h) | (rw [(ieq_iff _ _).mp (h : ieq z z' = true)])
noncomputable def aeq : List av → List av → Bool
  | [], [] => true
  | .inl z :: t, .inl x :: u => ieq z x && aeq t u
  | .inr (.inl (some o)) :: t, .inr (.inl (some p)) :: u => Nat.beq o p && aeq t u
  | _, _ => false
theorem aeq_ok : ∀ {as bs : List av}, aeq as bs = true → as = bs
  | [], [], _ => rfl
  | [], _ :: _, h => nomatch h
  | .inl _ :: _, [], h => nomatch h
  | .inl z :: t, .inl x :: u, h => by
    obtain ⟨h1, h2⟩ := and_tt (h : (ieq z x && aeq t u) = true)
    rw [(ieq_iff _ _).mp h1, aeq_ok h2]
  | .inl _ :: _, .inr _ :: _, h => nomatch h
  | .inr (.inr _) :: _, _, h => by revert h; unfold aeq; simp
  | .inr (.inl none) :: _, _, h => by revert h; unfold aeq; simp
  | .inr (.inl (some o)) :: t, [], h => nomatch h
  | .inr (.inl (some o)) :: t, .inl _ :: _, h => nomatch h
  | .inr (.inl (some o)) :: t, .inr (.inr _) :: _, h => nomatch h
  | .inr (.inl (some o)) :: t, .inr (.inl none) :: _, h => nomatch h
  | .inr (.inl (some o)) :: t, .inr (.inl (some p)) :: u, h => by
    obtain ⟨h1, h2⟩ := and_tt (h : (Nat.beq o p && aeq t u) = true)
    rw [Nat.eq_of_beq_eq_true h1, aeq_ok h2]
/-- a run from a written heap to another -/
noncomputable def okX (md g d y : Nat) (as : List av) (N : Nat) (T : Tr 32) (o : Option av ⊕ Nat) (N' : Nat) (U : Tr 32) : Bool := match ev (slE md) no_st g d y 0 (ent as (mt y).2.2.1) [] N T with
  | some r => oeq r.1 o && (Nat.beq r.2.1 N' && teq 32 r.2.2 U)
  | none => false
theorem okX_run {md g d y : Nat} {as : List av} {N : Nat} {T : Tr 32} {o : Option av ⊕ Nat} {N' : Nat} {U : Tr 32} (hmd : md < 3 ∨ (10 ≤ md ∧ md < 13)) (h : okX md g d y as N T o N' U = true) (hw : Nat.ble (wsum as) (mt y).2.2.1 = true) (hM : 10 ≤ md ∨ 233 ≤ N) (hz : zi N T) (hN : N' ≤ 256)
    {ρ : Nat → Int} {scL : Nat} {scX : Nat → Int} : N ≤ N' ∧ ∀ as' fi fr ai al, sr ρ as as' → hp ρ md N T fi fr ai al → ∀ P : ot, (∀ o' fi fr ai al, orr ρ o o' → hp ρ md N' U fi fr ai al → P o' fi fr ai al) → Call md scL scX (d + 1) y as' N fi fr ai al N' P := by
  have hS : ∀ i, i < 256 → (shp md i).2 ≤ 8388608 := by
    rcases hmd with hmd | ⟨h1, h2⟩
    · exact shp_le hmd
    · obtain ⟨k, rfl⟩ := Nat.exists_eq_add_of_le h1
      exact shp_le0 (by omega)
  cases hq : ev (slE md) no_st g d y 0 (ent as (mt y).2.2.1) [] N T with
  | none =>
    unfold okX at h
    rw [hq] at h
    exact nomatch h
  | some r =>
    unfold okX at h
    rw [hq] at h
    obtain ⟨h1, h2⟩ := and_tt (h : (oeq r.1 o && (Nat.beq r.2.1 N' && teq 32 r.2.2 U)) = true)
    obtain ⟨h2, h3⟩ := and_tt h2
    have h2 := Nat.eq_of_beq_eq_true h2
    have h1 := oeq_ok h1
    have h3 := teq_ok 32 _ _ h3
    have g1 := ev_sound (E := slE md) (ρ := ρ) (scL := scL) (scX := scX) sl_ok hS sb_no g d y 0 _ _ N T r hq (by rw [h2]; exact hN) hM hz
    have g0 := g1 (fun _ _ _ _ _ => True) (fun _ _ _ _ _ _ _ => trivial)
    refine ⟨h2 ▸ g0.1, fun as' fi fr ai al ha hh P hP => ?_⟩
    have g2 := (g1 P (fun o' fi fr ai al ho hh => hP o' fi fr ai al (h1 ▸ ho) (by
      rw [← h2]
      intro i hi k hk
      have := hh i hi k hk
      rw [← h3, ← h3]
      exact this))).2.2 _ [] fi fr ai al (sr_ent _ ha) trivial hh
    rw [h2] at g2
    exact ⟨⟨h2 ▸ g0.1, by rw [sr_wsum ha]; exact hw⟩, g2⟩
/-- a stub: a method with these arguments, from this heap (but for the long's place, which is kept) to that one -/
noncomputable def stX (d0 y0 : Nat) (as0 : List av) (N0 : Nat) (T0 : Tr 32) (o : Option av ⊕ Nat) (N' : Nat) (U : Tr 32) : stt := fun d y as N T =>
  bif Nat.beq y y0 && (Nat.ble d0 d && (Nat.beq N N0 && aeq as as0)) then frq (tg 32 T kap) (fun v => bif cnc v && teq 32 (ts 32 T kap tok9) T0 then some (o, N', ts 32 U kap v) else none) else none
theorem sb_X {md g d0 y0 : Nat} {as0 : List av} {N0 : Nat} {T0 : Tr 32} {o : Option av ⊕ Nat} {N' : Nat} {U : Tr 32} (hmd : md < 3) (h : okX md g d0 y0 as0 N0 T0 o N' U = true) (hN0 : 233 ≤ N0) (hN : N' ≤ 256) (hz0 : zi N0 T0) (hzU : zi N' U)
    (ht0 : ∀ k, k < 4294967296 → k ≠ kap → ntk (tg 32 T0 k)) (htU : ∀ k, k < 4294967296 → k ≠ kap → ntk (tg 32 U k)) (h90 : tg 32 T0 kap = tok9) (h9U : tg 32 U kap = tok9) (ho : ∀ (ρ ρ' : Nat → Int) o', orr ρ o o' → orr ρ' o o')
    (has : ∀ (ρ ρ' : Nat → Int) as', sr ρ as0 as' → sr ρ' as0 as') {E : eE} (hE : E.1 = md) {ρ : Nat → Int} {scL : Nat} {scX : Nat → Int} : SB E ρ scL scX (stX d0 y0 as0 N0 T0 o N' U) := by
  intro d y as N T r hr hw hM hz h256
  obtain ⟨h1, h2⟩ := bif_sn hr
  rw [frq_eq] at h2
  obtain ⟨h3, h2⟩ := bif_sn h2
  obtain ⟨hv, hT⟩ := and_tt h3
  obtain ⟨hy, h1⟩ := and_tt h1
  obtain ⟨hd, h1⟩ := and_tt h1
  obtain ⟨hNN, ha⟩ := and_tt h1
  have hy := Nat.eq_of_beq_eq_true hy
  have hd := Nat.le_of_ble_eq_true hd
  have hNN := Nat.eq_of_beq_eq_true hNN
  have ha := aeq_ok ha
  have h2 := Option.some.inj h2
  subst hy
  subst hNN
  subst ha
  subst h2
  have hT := teq_ok 32 _ _ hT
  have e32 : (2 : Nat) ^ 32 = 4294967296 := by decide
  have hk : kap < 4294967296 := by unfold kap; omega
  have k232 : (shp E.1 232).1 = 2 := by
    rw [hE]
    rcases (show md = 0 ∨ md = 1 ∨ md = 2 by omega) with rfl | rfl | rfl <;> decide +kernel
  have hT' : ∀ k, k < 4294967296 → k ≠ kap → tg 32 T k = tg 32 T0 k := fun k q1 q2 => by
    have := hT k
    rw [tg_ts 32 _ _ _ _ (by rw [e32]; exact hk) (by rw [e32]; exact q1), if_neg q2] at this
    exact this
  have hU' : ∀ k, k < 4294967296 → tg 32 (ts 32 U kap (tg 32 T kap)) k = if k = kap then tg 32 T kap else tg 32 U k := fun k q1 => tg_ts 32 _ _ _ _ (by rw [e32]; exact hk) (by rw [e32]; exact q1)
  have hx := fun ρ' => okX_run (Or.inl hmd) h hw (Or.inr hN0) hz0 hN (ρ := ρ') (scL := scL) (scX := scX)
  refine ⟨(hx ρ).1, ?_, fun as' fi fr ai al hs hh P hP => ?_⟩
  · intro i q1 q2 k q3
    show tg 32 (ts 32 U kap (tg 32 T kap)) (ky i k) = 0
    have := (hx ρ).1
    have q1 : N' ≤ i := q1
    rw [hU' _ (by unfold ky; omega), if_neg (by unfold ky kap; omega)]
    exact hzU i q1 q2 k q3
  · have hr' : ∀ ρ' : Nat → Int, ρ' 9 = tg 32 T kap → Call E.1 scL scX (d + 1) y as' N fi fr ai al N' P := by
      intro ρ' h9
      rw [hE]
      refine Call_ge (by omega) ((hx ρ').2 as' fi fr ai al (has _ _ _ hs) ?_ P (fun o' fi fr ai al ho' hh' => ?_))
      · rw [← hE]
        have hNN := (hx ρ').1
        refine hp_swap (by omega) k232 hh (fun k q1 q2 => ⟨hT' k q1 q2, ht0 k q1 q2⟩) (fun q => ?_)
        rw [h90]
        refine ⟨fun q => (nomatch q), fun _ _ => ?_⟩
        show al 232 0 = Int64.ofInt (ρ' 9)
        rw [h9]
        exact q.1 hv
      · refine hP o' fi fr ai al (ho _ _ _ ho') ?_
        show hp ρ E.1 N' (ts 32 U kap (tg 32 T kap)) fi fr ai al
        rw [hE] at k232 ⊢
        refine hp_swap hN k232 hh' (fun k q1 q2 => ⟨?_, ?_⟩) (fun q => ?_)
        · rw [hU' k q1, if_neg q2]
        · rw [hU' k q1, if_neg q2]
          exact htU k q1 q2
        · rw [h9U] at q
          have q : al 232 0 = Int64.ofInt (ρ' 9) := q.2 rfl rfl
          rw [h9] at q
          rw [hU' _ hk, if_pos rfl]
          exact ⟨fun _ => q, fun z => by rw [hv] at z; exact nomatch z⟩
    exact hr' (fun t => if t = 9 then tg 32 T kap else 0) (by simp)
/-- one stub behind another -/
noncomputable def stO (a b : stt) : stt := fun d y as N T => match a d y as N T with
  | some r => some r
  | none => b d y as N T
theorem sb_O {E : eE} {ρ : Nat → Int} {scL : Nat} {scX : Nat → Int} {a b : stt} (ha : SB E ρ scL scX a) (hb : SB E ρ scL scX b) : SB E ρ scL scX (stO a b) := by
  intro d y as N T r h
  cases hs : a d y as N T with
  | some r1 =>
    have h : (match a d y as N T with | some r => some r | none => b d y as N T) = some r := h
    rw [hs] at h
    have h : some r1 = some r := h
    rw [← Option.some.inj h]
    exact ha d y as N T r1 hs
  | none =>
    have h : (match a d y as N T with | some r => some r | none => b d y as N T) = some r := h
    rw [hs] at h
    exact hb d y as N T r h
