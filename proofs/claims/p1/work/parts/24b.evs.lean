/-! THE EVALUATOR IS SOUND: what it answers is a run of the pure step (words) -/
theorem ilt_iff (x y : Int) : ilt x y = true ↔ x < y := by
  rcases x with a | a <;> rcases y with b | b
  · show Nat.ble (Nat.succ a) b = true ↔ ((a : Nat) : Int) < ((b : Nat) : Int)
    rw [Nat.ble_eq]; omega
  · show false = true ↔ ((a : Nat) : Int) < Int.negSucc b
    rw [Int.negSucc_eq]
    exact ⟨fun h => (nomatch h), fun h => by omega⟩
  · show true = true ↔ Int.negSucc a < ((b : Nat) : Int)
    rw [Int.negSucc_eq]
    exact ⟨fun _ => by omega, fun _ => rfl⟩
  · show Nat.ble (Nat.succ b) a = true ↔ Int.negSucc a < Int.negSucc b
    rw [Int.negSucc_eq, Int.negSucc_eq, Nat.ble_eq]; omega
theorem ieq_iff (x y : Int) : ieq x y = true ↔ x = y := by
  rcases x with a | a <;> rcases y with b | b
  · show Nat.beq a b = true ↔ ((a : Nat) : Int) = ((b : Nat) : Int)
    rw [Nat.beq_eq]; omega
  · show false = true ↔ ((a : Nat) : Int) = Int.negSucc b
    rw [Int.negSucc_eq]
    exact ⟨fun h => (nomatch h), fun h => by omega⟩
  · show false = true ↔ Int.negSucc a = ((b : Nat) : Int)
    rw [Int.negSucc_eq]
    exact ⟨fun h => (nomatch h), fun h => by omega⟩
  · show Nat.beq a b = true ↔ Int.negSucc a = Int.negSucc b
    rw [Int.negSucc_eq, Int.negSucc_eq, Nat.beq_eq]; omega
theorem ilt_ff {x y : Int} (h : ilt x y = false) : y ≤ x := by
  have : ¬ x < y := fun q => by rw [(ilt_iff x y).mpr q] at h; exact nomatch h
  omega
theorem ilt_nf {x y : Int} (h : (!(ilt x y)) = true) : y ≤ x := by
  apply ilt_ff
  revert h
  cases ilt x y <;> decide
theorem bif_some {α : Type} {b : Bool} {x y : Option α} {r : α} (h : (bif b then x else y) = some r) : (b = true ∧ x = some r) ∨ (b = false ∧ y = some r) := by
  cases b
  · exact Or.inr ⟨rfl, h⟩
  · exact Or.inl ⟨rfl, h⟩
theorem bif_sn {α : Type} {b : Bool} {x : Option α} {r : α} (h : (bif b then x else none) = some r) : b = true ∧ x = some r := by
  rcases bif_some h with h | ⟨_, h⟩
  · exact h
  · exact nomatch h
theorem and_tt {a b : Bool} (h : (a && b) = true) : a = true ∧ b = true := by
  revert h; cases a <;> cases b <;> decide
theorem frq_eq {α : Type} (z : Int) (k : Int → α) : frq z k = k z := by
  rcases z with n | n <;> cases n <;> rfl
theorem frn_eq {α : Type} (n : Nat) (k : Nat → α) : frn n k = k n := by
  cases n <;> rfl
theorem frr_eq {α : Type} (z : Int) (k : Option Nat → α) : frr z k = k (rR z) := by
  rcases z with n | n
  · cases n <;> rfl
  · rfl
theorem rR_cR (r : Option Nat) : rR (cR r) = r := by
  cases r <;> rfl
theorem inbB_iff {j : Int} {n : Nat} (h : inbB j n = true) : inb j n := by
  rcases j with a | a
  · have : Nat.ble (Nat.succ a) n = true := h
    rw [Nat.ble_eq] at this
    exact ⟨by show (0 : Int) ≤ ((a : Nat) : Int); omega, by show ((a : Nat) : Int) < (n : Int); omega⟩
  · exact nomatch h
theorem rgB_iff {x : Int} (h : rgB x = true) : rg x := by
  obtain ⟨h1, h2⟩ := and_tt h
  have g1 := ilt_nf h1
  have g2 := ilt_nf h2
  exact ⟨g1, g2⟩
def gm (ρ : Nat → Int) (z x : Int) : Prop := (cnc z = true → x = z) ∧ (cnc z = false → ilt z jk = true → x = ρ (z.toNat - 1099511627776))
theorem gm_c {ρ : Nat → Int} {z x : Int} (hc : cnc z = true) (h : gm ρ z x) : x = z := h.1 hc
theorem gm_self {ρ : Nat → Int} {z : Int} (hc : cnc z = true) : gm ρ z z := ⟨fun _ => rfl, fun q => by rw [hc] at q; exact nomatch q⟩
theorem gm_jk {ρ : Nat → Int} {x : Int} : gm ρ jk x := ⟨fun q => (nomatch q), fun _ q => (nomatch q)⟩
theorem gm_nz {ρ : Nat → Int} {z : Int} : gm ρ (nz z) z := by
  unfold nz
  cases h : cnc z
  · exact gm_jk
  · exact gm_self h
theorem gm_0 {ρ : Nat → Int} : gm ρ 0 0 := gm_self rfl
def vr (ρ : Nat → Int) : av → av → Prop
  | .inl z, .inl x => gm ρ z x
  | .inr a, .inr b => b = a
  | _, _ => False
def lr (ρ : Nat → Int) : List (Option av) → List (Option av) → Prop
  | [], [] => True
  | none :: t, none :: t' => lr ρ t t'
  | some v :: t, some v' :: t' => vr ρ v v' ∧ lr ρ t t'
  | _, _ => False
def sr (ρ : Nat → Int) : List av → List av → Prop
  | [], [] => True
  | v :: t, v' :: t' => vr ρ v v' ∧ sr ρ t t'
  | _, _ => False
def orr (ρ : Nat → Int) : (Option av ⊕ Nat) → (Option av ⊕ Nat) → Prop
  | .inl none, .inl none => True
  | .inl (some v), .inl (some v') => vr ρ v v'
  | .inr x, .inr y => y = x
  | _, _ => False
theorem sr_cons {ρ : Nat → Int} {v : av} {S S' : List av} (h : sr ρ (v :: S) S') : ∃ v' t, S' = v' :: t ∧ vr ρ v v' ∧ sr ρ S t := by
  cases S' with
  | nil => exact h.elim
  | cons v' t => exact ⟨v', t, rfl, h.1, h.2⟩
theorem sr_inl {ρ : Nat → Int} {z : Int} {S S' : List av} (h : sr ρ (.inl z :: S) S') : ∃ x t, S' = .inl x :: t ∧ gm ρ z x ∧ sr ρ S t := by
  obtain ⟨v, t, rfl, hv, ht⟩ := sr_cons h
  rcases v with x | b
  · exact ⟨x, t, rfl, hv, ht⟩
  · exact hv.elim
theorem sr_inr {ρ : Nat → Int} {a : Option Nat ⊕ Int64} {S S' : List av} (h : sr ρ (.inr a :: S) S') : ∃ t, S' = .inr a :: t ∧ sr ρ S t := by
  obtain ⟨v, t, rfl, hv, ht⟩ := sr_cons h
  rcases v with x | b
  · exact hv.elim
  · cases (hv : b = a)
    exact ⟨t, rfl, ht⟩
theorem sr_nil {ρ : Nat → Int} {S' : List av} (h : sr ρ [] S') : S' = [] := by
  cases S' with
  | nil => rfl
  | cons v' t => exact h.elim
theorem lr_gl {ρ : Nat → Int} : ∀ {L L' : List (Option av)} (k : Nat) {v : av}, lr ρ L L' → gl L k = some v → ∃ v', gl L' k = some v' ∧ vr ρ v v'
  | [], _, _, _, _, h => nomatch h
  | none :: t, [], _, _, hl, _ => hl.elim
  | some _ :: t, [], _, _, hl, _ => hl.elim
  | none :: t, some _ :: _, _, _, hl, _ => hl.elim
  | some _ :: t, none :: _, _, _, hl, _ => hl.elim
  | none :: t, none :: t', 0, v, hl, h => nomatch h
  | none :: t, none :: t', k + 1, v, hl, h => lr_gl (L := t) (L' := t') k hl h
  | some w :: t, some w' :: t', 0, v, hl, h => by
    cases (h : some w = some v)
    exact ⟨w', rfl, hl.1⟩
  | some w :: t, some w' :: t', k + 1, v, hl, h => lr_gl (L := t) (L' := t') k hl.2 h
theorem lr_sl {ρ : Nat → Int} {v v' : av} (hv : vr ρ v v') : ∀ {L L' : List (Option av)} (k : Nat), lr ρ L L' → lr ρ (sl L k v) (sl L' k v')
  | [], [], _, h => trivial
  | none :: t, [], _, hl => hl.elim
  | some _ :: t, [], _, hl => hl.elim
  | [], none :: _, _, hl => hl.elim
  | [], some _ :: _, _, hl => hl.elim
  | none :: t, some _ :: _, _, hl => hl.elim
  | some _ :: t, none :: _, _, hl => hl.elim
  | none :: t, none :: t', 0, hl => ⟨hv, hl⟩
  | none :: t, none :: t', k + 1, hl => by
    have := lr_sl hv (L := t) (L' := t') k hl
    simp only [sl]
    exact this
  | some w :: t, some w' :: t', 0, hl => by
    simp only [sl]
    exact ⟨hv, hl.2⟩
  | some w :: t, some w' :: t', k + 1, hl => by
    obtain ⟨h1, h2⟩ := hl
    have ih := lr_sl hv (L := t) (L' := t') k h2
    rcases w with z | (a | q)
    · rcases w' with z' | b
      · simp only [sl]
        exact ⟨h1, ih⟩
      · exact h1.elim
    · rcases w' with z' | b
      · exact h1.elim
      · cases (h1 : b = _)
        simp only [sl]
        exact ⟨rfl, ih⟩
    · rcases w' with z' | b
      · exact h1.elim
      · cases (h1 : b = _)
        cases k with
        | zero =>
          match t, t', h2, ih with
          | [], [], _, _ => simp only [sl]; exact ⟨rfl, trivial⟩
          | none :: t, none :: t', h2, _ => exact ⟨hv, h2⟩
          | some _ :: t, some _ :: t', h2, _ => exact ⟨hv, h2.2⟩
        | succ k =>
          simp only [sl]
          exact ⟨rfl, ih⟩
theorem vr_c1 {ρ : Nat → Int} {v v' : av} (h : vr ρ v v') : c1 v' = c1 v := by
  rcases v with z | a <;> rcases v' with z' | b
  · rfl
  · exact h.elim
  · exact h.elim
  · cases (h : b = a); rfl
theorem sr_wsum {ρ : Nat → Int} : ∀ {S S' : List av}, sr ρ S S' → wsum S' = wsum S
  | [], [], _ => rfl
  | [], _ :: _, h => h.elim
  | _ :: _, [], h => h.elim
  | v :: t, v' :: t', h => by
    have ih := sr_wsum h.2
    have h1 := h.1
    rcases v with z | (a | a) <;> rcases v' with z' | b
    · show 1 + wsum t' = 1 + wsum t; rw [ih]
    · exact h1.elim
    · exact h1.elim
    · cases (h1 : b = _); show 1 + wsum t' = 1 + wsum t; rw [ih]
    · exact h1.elim
    · cases (h1 : b = _); show 2 + wsum t' = 2 + wsum t; rw [ih]
theorem sr_spl {ρ : Nat → Int} {k : List av → List av → Prop} : ∀ (n : Nat) {S S' acc acc' as S1 : List av}, sr ρ S S' → sr ρ acc acc' → splB n S acc = some (as, S1) → (∀ as' S1', sr ρ as as' → sr ρ S1 S1' → k as' S1') → spl n S' acc' k
  | 0, S, S', acc, acc', as, S1, hS, ha, h, hk => by
    cases (h : some (acc, S) = some (as, S1))
    exact hk _ _ ha hS
  | n + 1, [], S', acc, acc', as, S1, hS, ha, h, hk => nomatch h
  | n + 1, v :: S, S', acc, acc', as, S1, hS, ha, h, hk => by
    obtain ⟨v', t, rfl, hv, ht⟩ := sr_cons hS
    exact sr_spl n ht (acc := v :: acc) (acc' := v' :: acc') ⟨hv, ha⟩ h hk
theorem sr_rcv {ρ : Nat → Int} {md rc N : Nat} {as as' : List av} (h : sr ρ as as') : rcv md rc as' N = rcv md rc as N := by
  cases as with
  | nil => rw [sr_nil h]
  | cons v t =>
    rcases v with z | a
    · obtain ⟨x, t', rfl, -, -⟩ := sr_inl h
      rfl
    · obtain ⟨t', rfl, -⟩ := sr_inr h
      rcases a with r | w
      · cases r <;> rfl
      · rfl
theorem lr_rep {ρ : Nat → Int} : ∀ n : Nat, lr ρ (List.replicate n none) (List.replicate n none)
  | 0 => trivial
  | n + 1 => lr_rep n
theorem sr_ent {ρ : Nat → Int} : ∀ {as as' : List av} (n : Nat), sr ρ as as' → lr ρ (ent as n) (ent as' n)
  | [], as', n, h => by rw [sr_nil h]; exact lr_rep n
  | .inl z :: t, as', n, h => by
    obtain ⟨x, t', rfl, hx, ht⟩ := sr_inl h
    exact ⟨hx, sr_ent (n - 1) ht⟩
  | .inr (.inl r) :: t, as', n, h => by
    obtain ⟨t', rfl, ht⟩ := sr_inr h
    exact ⟨rfl, sr_ent (n - 1) ht⟩
  | .inr (.inr w) :: t, as', n, h => by
    obtain ⟨t', rfl, ht⟩ := sr_inr h
    exact ⟨rfl, sr_ent (n - 2) ht⟩
/-! comparing -/
theorem rng_gm {tr : Nat → Int × Int} {ρ : Nat → Int} (hR : ∀ t, (tr t).1 ≤ (tr t).2 → (tr t).1 ≤ ρ t ∧ ρ t ≤ (tr t).2) {z x a b : Int} (h : rng tr z = some (a, b)) (hg : gm ρ z x) : a ≤ x ∧ x ≤ b := by
  unfold rng at h
  cases hc : cnc z
  · rw [hc] at h
    rcases z with n | n
    · obtain ⟨h1, h2⟩ := bif_sn (h : (bif Nat.ble n 2199023255551 && !(ilt (tr (n - 1099511627776)).2 (tr (n - 1099511627776)).1) then some (tr (n - 1099511627776)) else none) = some (a, b))
      obtain ⟨h1, h1'⟩ := and_tt h1
      have hx := hg.2 hc (by show Nat.ble (Nat.succ n) 2199023255552 = true; rw [Nat.ble_eq] at h1 ⊢; omega)
      have e : tr (n - 1099511627776) = (a, b) := Option.some.inj h2
      have := hR (n - 1099511627776) (ilt_nf h1')
      rw [e] at this
      rw [hx]
      exact this
    · exact nomatch hc
  · rw [hc] at h
    cases (h : some (z, z) = some (a, b))
    rw [gm_c hc hg]
    exact ⟨Int.le_refl _, Int.le_refl _⟩
theorem cmpC_iff (c : ClassFile.Cond) (x y : Int) : cmpC c x y = true ↔ icm c x y := by
  cases c
  · exact ieq_iff x y
  · show (!(ieq x y)) = true ↔ x ≠ y
    show (!(ieq x y)) = true ↔ ¬ x = y
    rw [← not_congr (ieq_iff x y)]
    cases ieq x y <;> decide
  · exact ilt_iff x y
  · show (!(ilt x y)) = true ↔ y ≤ x
    rw [← Int.not_lt, ← not_congr (ilt_iff x y)]
    cases ilt x y <;> decide
  · exact ilt_iff y x
  · show (!(ilt y x)) = true ↔ x ≤ y
    rw [← Int.not_lt, ← not_congr (ilt_iff y x)]
    cases ilt y x <;> decide
theorem cmpA_ok {tr : Nat → Int × Int} {ρ : Nat → Int} (hR : ∀ t, (tr t).1 ≤ (tr t).2 → (tr t).1 ≤ ρ t ∧ ρ t ≤ (tr t).2) {c : ClassFile.Cond} {x y x' y' : Int} {b : Bool} (h : cmpA tr c x y = some b) (hx : gm ρ x x') (hy : gm ρ y y') : (rg x' ∧ rg y') ∧ (icm c x' y' ↔ b = true) := by
  unfold cmpA at h
  rcases bif_some h with ⟨hc, h⟩ | ⟨-, h⟩
  · obtain ⟨c1, c2⟩ := and_tt hc
    obtain ⟨hr, h⟩ := bif_sn h
    obtain ⟨r1, r2⟩ := and_tt hr
    rw [gm_c c1 hx, gm_c c2 hy]
    cases (h : some (cmpC c x y) = some b)
    exact ⟨⟨rgB_iff r1, rgB_iff r2⟩, (cmpC_iff c x y).symm⟩
  · unfold cmpT at h
    revert h
    split
    · rename_i a b' p q e1 e2
      intro h
      obtain ⟨g1, g2⟩ := rng_gm hR e1 hx
      obtain ⟨g3, g4⟩ := rng_gm hR e2 hy
      obtain ⟨hr, h⟩ := bif_sn h
      obtain ⟨hr1, hr2⟩ := and_tt hr
      obtain ⟨ha, hb⟩ := and_tt hr1
      obtain ⟨hp, hq⟩ := and_tt hr2
      have ha := rgB_iff ha
      have hb := rgB_iff hb
      have hp := rgB_iff hp
      have hq := rgB_iff hq
      unfold rg at ha hb hp hq
      refine ⟨⟨⟨by omega, by omega⟩, ⟨by omega, by omega⟩⟩, ?_⟩
      rcases bif_some h with ⟨h1, h⟩ | ⟨-, h⟩
      · have h1 := (ilt_iff _ _).mp h1
        cases (h : some (cmpC c 0 1) = some b)
        rw [cmpC_iff]
        cases c <;> simp only [icm] <;> omega
      · rcases bif_some h with ⟨h1, h⟩ | ⟨-, h⟩
        · have h1 := (ilt_iff _ _).mp h1
          cases (h : some (cmpC c 1 0) = some b)
          rw [cmpC_iff]
          cases c <;> simp only [icm] <;> omega
        · rcases bif_some h with ⟨h1, h⟩ | ⟨-, h⟩
          · have h2 := h
            have h1 := (ieq_iff _ _).mp h1
            subst h1
            have : x' = y' := by
              cases hc : cnc x
              · have hj : ilt x jk = true := by
                  unfold rng at e1
                  rw [hc] at e1
                  rcases x with n | n
                  · obtain ⟨h1, -⟩ := bif_sn (e1 : (bif Nat.ble n 2199023255551 && !(ilt (tr (n - 1099511627776)).2 (tr (n - 1099511627776)).1) then some (tr (n - 1099511627776)) else none) = some (a, b'))
                    obtain ⟨h1, -⟩ := and_tt h1
                    show Nat.ble (Nat.succ n) 2199023255552 = true
                    rw [Nat.ble_eq] at h1 ⊢; omega
                  · exact nomatch hc
                rw [hx.2 hc hj, hy.2 hc hj]
              · rw [hx.1 hc, hy.1 hc]
            cases h2
            rw [cmpC_iff]
            subst this
            cases c <;> simp [icm]
          · cases c
            · exact nomatch h
            · exact nomatch h
            · rcases bif_some (h : (bif ilt a q then none else some false) = some b) with ⟨-, h⟩ | ⟨h1, h⟩
              · exact nomatch h
              · have := ilt_ff h1
                cases h
                simp only [icm]
                exact ⟨fun _ => by omega, fun z => nomatch z⟩
            · rcases bif_some (h : (bif ilt a q then none else some true) = some b) with ⟨-, h⟩ | ⟨h1, h⟩
              · exact nomatch h
              · have := ilt_ff h1
                cases h
                simp only [icm]
                refine ⟨fun _ => ?_, fun z => ?_⟩ <;> first | trivial | omega
            · rcases bif_some (h : (bif ilt p b' then none else some false) = some b) with ⟨-, h⟩ | ⟨h1, h⟩
              · exact nomatch h
              · have := ilt_ff h1
                cases h
                simp only [icm]
                exact ⟨fun _ => by omega, fun z => nomatch z⟩
            · rcases bif_some (h : (bif ilt p b' then none else some true) = some b) with ⟨-, h⟩ | ⟨h1, h⟩
              · exact nomatch h
              · have := ilt_ff h1
                cases h
                simp only [icm]
                refine ⟨fun _ => ?_, fun z => ?_⟩ <;> first | trivial | omega
    · intro h
      exact nomatch h
theorem brn_of {c : ClassFile.Cond} {x y : Int} {A B : Prop} {b : Bool} (h1 : rg x ∧ rg y) (h2 : icm c x y ↔ b = true) (hA : b = true → A) (hB : b = false → B) : brn c x y A B := by
  have hB' : ¬ icm c x y → B := fun q => hB (by cases hb : b; rfl; exact absurd (h2.mpr hb) q)
  have hA' : icm c x y → A := fun q => hA (h2.mp q)
  cases c <;> simp only [icm] at hA' hB' <;> simp only [brn]
  · exact ⟨hA', fun q => ⟨h1.1, h1.2, hB' q⟩⟩
  · exact ⟨fun q => ⟨h1.1, h1.2, hA' q⟩, fun q => hB' (fun z => z q)⟩
  · exact ⟨h1, hA', hB'⟩
  · exact ⟨h1, hA', hB'⟩
  · exact ⟨h1, hA', hB'⟩
  · exact ⟨h1, hA', hB'⟩
theorem tsw_of {f : Nat → Prop} {z : Int} : ∀ (l : List Nat) (k : Int), (z < k → tsw f z k l) ∧ (∀ t, tsF z k l = some t → f t → tsw f z k l)
  | [], k => ⟨fun _ => trivial, fun _ h => nomatch h⟩
  | t :: l, k => by
    obtain ⟨i1, i2⟩ := tsw_of (f := f) (z := z) l (k + 1)
    refine ⟨fun h => ⟨fun q => by omega, i1 (by omega)⟩, fun t' h hf => ?_⟩
    rcases bif_some (h : (bif ieq z k then some t else tsF z (k + 1) l) = some t') with ⟨h1, h⟩ | ⟨h1, h⟩
    · have := (ieq_iff _ _).mp h1
      cases h
      exact ⟨fun _ => hf, i1 (by omega)⟩
    · refine ⟨fun q => ?_, i2 _ h hf⟩
      rw [(ieq_iff z k).mpr q] at h1
      exact nomatch h1
theorem lsw_of {f : Nat → Prop} {z : Int} {d : Nat} : ∀ (ps : List (Int × Int)) (l : List Nat), f (lsF z d ps l) → lsw f z d ps l
  | [], _, h => h
  | _ :: _, [], h => h
  | p :: ps, t :: l, h => by
    have h : f (bif ieq z p.1 then t else lsF z d ps l) := h
    refine ⟨fun q => ?_, fun q => ?_⟩
    · rw [(ieq_iff z p.1).mpr q] at h
      exact h
    · have e : ieq z p.1 = false := by
        cases he : ieq z p.1
        · rfl
        · exact absurd ((ieq_iff _ _).mp he) q
      rw [e] at h
      exact lsw_of ps l h
/-! the tree beside the pictures -/
/-- a long beside its code -/
def gq (ρ : Nat → Int) (z : Int) (w : Int64) : Prop := (cnc z = true → w = Int64.ofInt z) ∧ (cnc z = false → ilt z jk = true → w = Int64.ofInt (ρ (z.toNat - 1099511627776)))
theorem gq_nz {ρ : Nat → Int} {w : Int64} : gq ρ (nz w.toInt) w := by
  unfold nz
  cases h : cnc w.toInt
  · exact ⟨fun q => (nomatch q), fun _ q => (nomatch q)⟩
  · exact ⟨fun _ => (Int64.ofInt_toInt w).symm, fun q => by rw [cond_true, h] at q; exact nomatch q⟩
theorem gq_0 {ρ : Nat → Int} : gq ρ 0 0 := ⟨fun _ => rfl, fun q => (nomatch q)⟩
def zi (N : Nat) (T : Tr 32) : Prop := ∀ i, N ≤ i → i < 256 → ∀ k, k < 16777216 → tg 32 T (ky i k) = 0
def hp (ρ : Nat → Int) (md N : Nat) (T : Tr 32) (fi : tF) (fr : tR) (ai : tF) (al : tL) : Prop := ∀ i, i < N → ∀ k, k < 8388608 → (10 ≤ (shp md i).1 → gm ρ (tg 32 T (ky i k)) (fi i k) ∧ fr i k = rR (tg 32 T (kr i k))) ∧ ((shp md i).1 ≤ 1 → gm ρ (tg 32 T (ky i k)) (ai i k)) ∧ ((shp md i).1 = 2 → gq ρ (tg 32 T (ky i k)) (al i k))
theorem tg_ky {T : Tr 32} {o k i j : Nat} {z : Int} (ho : o < 256) (hk : k < 16777216) (hi : i < 256) (hj : j < 16777216) : tg 32 (ts 32 T (ky o k) z) (ky i j) = if i = o ∧ j = k then z else tg 32 T (ky i j) := by
  have e : (2 : Nat) ^ 32 = 4294967296 := by decide
  rw [tg_ts 32 _ _ _ _ (by rw [e]; unfold ky; omega) (by rw [e]; unfold ky; omega)]
  by_cases h : i = o ∧ j = k
  · rw [if_pos h, if_pos (by rw [h.1, h.2])]
  · rw [if_neg h, if_neg (by unfold ky; omega)]
theorem up2_if {α : Type} (f : Nat → Nat → α) (o k : Nat) (v : α) (i j : Nat) : up2 f o k v i j = if i = o ∧ j = k then v else f i j := by
  by_cases h : i = o ∧ j = k
  · rw [if_pos h, h.1, h.2]
    show (bif Nat.beq o o && Nat.beq k k then v else f o k) = v
    rw [Nat.beq_refl, Nat.beq_refl]; rfl
  · rw [if_neg h]
    have e : (Nat.beq i o && Nat.beq j k) = false := by
      cases h1 : Nat.beq i o <;> cases h2 : Nat.beq j k <;> first | rfl | exact absurd ⟨Nat.eq_of_beq_eq_true h1, Nat.eq_of_beq_eq_true h2⟩ h
    show (bif (Nat.beq i o && Nat.beq j k) then v else f i j) = _
    rw [e]; rfl
theorem clr_if {α : Type} (f : Nat → Nat → α) (o : Nat) (v : α) (i j : Nat) : clr f o v i j = if i = o then v else f i j := by
  by_cases h : i = o
  · rw [if_pos h, h]
    show (bif Nat.beq o o then v else f o j) = v
    rw [Nat.beq_refl]; rfl
  · rw [if_neg h]
    have e : Nat.beq i o = false := by
      cases h1 : Nat.beq i o
      · rfl
      · exact absurd (Nat.eq_of_beq_eq_true h1) h
    show (bif Nat.beq i o then v else f i j) = _
    rw [e]; rfl
section Hp
variable {ρ : Nat → Int} {md N : Nat} {T : Tr 32} {fi : tF} {fr : tR} {ai : tF} {al : tL} {o b : Nat} {z x : Int}
theorem zi_ts (h : zi N T) (ho : o < N) (hN : N ≤ 256) (hb : b < 16777216) : zi N (ts 32 T (ky o b) z) := by
  intro i h1 h2 k hk
  rw [tg_ky (by omega) hb h2 hk, if_neg (by omega)]
  exact h i h1 h2 k hk
theorem zi_le {M : Nat} (h : zi N T) (hM : N ≤ M) : zi M T := fun i h1 h2 k hk => h i (by omega) h2 k hk
theorem hp_f (h : hp ρ md N T fi fr ai al) (hN : N ≤ 256) (ho : o < N) (hk : 10 ≤ (shp md o).1) (hb : b < 8388608) (hg : gm ρ z x) : hp ρ md N (ts 32 T (ky o b) z) (up2 fi o b x) fr ai al := by
  intro i hi k hkk
  obtain ⟨h1, h2, h3⟩ := h i hi k hkk
  have e1 := tg_ky (T := T) (o := o) (k := b) (i := i) (j := k) (z := z) (by omega) (by omega) (by omega) (by omega)
  have e2 := tg_ky (T := T) (o := o) (k := b) (i := i) (j := 8388608 + k) (z := z) (by omega) (by omega) (by omega) (by omega)
  rw [if_neg (by omega)] at e2
  refine ⟨fun q => ⟨?_, ?_⟩, fun q => ?_, fun q => ?_⟩
  · rw [e1, up2_if]
    split
    · exact hg
    · exact (h1 q).1
  · exact (h1 q).2.trans (congrArg rR e2.symm)
  · rw [e1, if_neg (by rintro ⟨rfl, -⟩; omega)]
    exact h2 q
  · rw [e1, if_neg (by rintro ⟨rfl, -⟩; omega)]
    exact h3 q
theorem hp_r {r : Option Nat} (h : hp ρ md N T fi fr ai al) (hN : N ≤ 256) (ho : o < N) (hb : b < 8388608) : hp ρ md N (ts 32 T (kr o b) (cR r)) fi (up2 fr o b r) ai al := by
  intro i hi k hkk
  obtain ⟨h1, h2, h3⟩ := h i hi k hkk
  have e1 := tg_ky (T := T) (o := o) (k := 8388608 + b) (i := i) (j := k) (z := cR r) (by omega) (by omega) (by omega) (by omega)
  have e2 := tg_ky (T := T) (o := o) (k := 8388608 + b) (i := i) (j := 8388608 + k) (z := cR r) (by omega) (by omega) (by omega) (by omega)
  rw [if_neg (by omega)] at e1
  have e1 : tg 32 (ts 32 T (kr o b) (cR r)) (ky i k) = tg 32 T (ky i k) := e1
  rw [e1]
  refine ⟨fun q => ⟨(h1 q).1, ?_⟩, h2, h3⟩
  have e2 : tg 32 (ts 32 T (kr o b) (cR r)) (kr i k) = if i = o ∧ 8388608 + k = 8388608 + b then cR r else tg 32 T (kr i k) := e2
  rw [e2, up2_if]
  by_cases hc : i = o ∧ k = b
  · rw [if_pos hc, if_pos ⟨hc.1, by omega⟩, rR_cR]
  · rw [if_neg hc, if_neg (by omega)]
    exact (h1 q).2
theorem hp_a (h : hp ρ md N T fi fr ai al) (hN : N ≤ 256) (ho : o < N) (hk : (shp md o).1 ≤ 1) (hb : b < 8388608) (hg : gm ρ z x) : hp ρ md N (ts 32 T (ky o b) z) fi fr (up2 ai o b x) al := by
  intro i hi k hkk
  obtain ⟨h1, h2, h3⟩ := h i hi k hkk
  have e1 := tg_ky (T := T) (o := o) (k := b) (i := i) (j := k) (z := z) (by omega) (by omega) (by omega) (by omega)
  have e2 := tg_ky (T := T) (o := o) (k := b) (i := i) (j := 8388608 + k) (z := z) (by omega) (by omega) (by omega) (by omega)
  rw [if_neg (by omega)] at e2
  refine ⟨fun q => ⟨?_, ?_⟩, fun q => ?_, fun q => ?_⟩
  · rw [e1, if_neg (by rintro ⟨rfl, -⟩; omega)]
    exact (h1 q).1
  · exact (h1 q).2.trans (congrArg rR e2.symm)
  · rw [e1, up2_if]
    split
    · exact hg
    · exact h2 q
  · rw [e1, if_neg (by rintro ⟨rfl, -⟩; omega)]
    exact h3 q
theorem hp_l {w : Int64} (h : hp ρ md N T fi fr ai al) (hN : N ≤ 256) (ho : o < N) (hk : (shp md o).1 = 2) (hb : b < 8388608) : hp ρ md N (ts 32 T (ky o b) (nz w.toInt)) fi fr ai (up2 al o b w) := by
  intro i hi k hkk
  obtain ⟨h1, h2, h3⟩ := h i hi k hkk
  have e1 := tg_ky (T := T) (o := o) (k := b) (i := i) (j := k) (z := nz w.toInt) (by omega) (by omega) (by omega) (by omega)
  have e2 := tg_ky (T := T) (o := o) (k := b) (i := i) (j := 8388608 + k) (z := nz w.toInt) (by omega) (by omega) (by omega) (by omega)
  rw [if_neg (by omega)] at e2
  refine ⟨fun q => ⟨?_, ?_⟩, fun q => ?_, fun q => ?_⟩
  · rw [e1, if_neg (by rintro ⟨rfl, -⟩; omega)]
    exact (h1 q).1
  · exact (h1 q).2.trans (congrArg rR e2.symm)
  · rw [e1, if_neg (by rintro ⟨rfl, -⟩; omega)]
    exact h2 q
  · rw [e1, up2_if]
    split
    · exact gq_nz
    · exact h3 q
theorem hp_new (h : hp ρ md N T fi fr ai al) (hz : zi N T) (hN : N < 256) (hk : 10 ≤ (shp md N).1) : hp ρ md (N + 1) T (clr fi N 0) (clr fr N none) ai al := by
  intro i hi k hkk
  by_cases e : i = N
  · subst e
    have e1 := hz i (Nat.le_refl _) hN k (by omega)
    have e2 : tg 32 T (kr i k) = 0 := hz i (Nat.le_refl _) hN (8388608 + k) (by omega)
    rw [e1, e2, clr_if, clr_if, if_pos rfl, if_pos rfl]
    exact ⟨fun _ => ⟨gm_0, rfl⟩, fun q => by omega, fun q => by omega⟩
  · obtain ⟨h1, h2, h3⟩ := h i (by omega) k hkk
    rw [clr_if, clr_if, if_neg e, if_neg e]
    exact ⟨h1, h2, h3⟩
theorem hp_nar (h : hp ρ md N T fi fr ai al) (hz : zi N T) (hN : N < 256) (hk : (shp md N).1 ≤ 2) : hp ρ md (N + 1) T fi fr (clr ai N 0) (clr al N 0) := by
  intro i hi k hkk
  by_cases e : i = N
  · subst e
    have e1 := hz i (Nat.le_refl _) hN k (by omega)
    rw [e1, clr_if, clr_if, if_pos rfl, if_pos rfl]
    exact ⟨fun q => by omega, fun q => gm_0, fun q => gq_0⟩
  · obtain ⟨h1, h2, h3⟩ := h i (by omega) k hkk
    rw [clr_if, clr_if, if_neg e, if_neg e]
    exact ⟨h1, h2, h3⟩
theorem clrR_if {α : Type} (f : Nat → Nat → α) (o n : Nat) (v : α) (i j : Nat) : clrR f o n v i j = if o ≤ i ∧ i ≤ o + n then v else f i j := by
  unfold clrR
  by_cases h : o ≤ i ∧ i ≤ o + n
  · rw [if_pos h, Nat.ble_eq_true_of_le h.1, Nat.ble_eq_true_of_le h.2]; rfl
  · rw [if_neg h]
    have e : (Nat.ble o i && Nat.ble i (o + n)) = false := by
      cases h1 : Nat.ble o i <;> cases h2 : Nat.ble i (o + n) <;> first | rfl | exact absurd ⟨Nat.le_of_ble_eq_true h1, Nat.le_of_ble_eq_true h2⟩ h
    rw [e]; rfl
theorem hp_mna {n : Nat} (h : hp ρ md N T fi fr ai al) (hz : zi N T) (hN : N + 1 + n ≤ 256) (hk : (shp md N).1 = 3) (hk2 : ∀ j, j < n → (shp md (N + 1 + j)).1 = 0) : hp ρ md (N + 1 + n) T fi fr (clrR ai N n 0) al := by
  intro i hi k hkk
  rw [clrR_if]
  by_cases e : N ≤ i
  · have e1 := hz i e (by omega) k (by omega)
    rw [e1, if_pos ⟨e, by omega⟩]
    have hkind : (shp md i).1 = 3 ∨ (shp md i).1 = 0 := by
      by_cases e2 : i = N
      · exact Or.inl (e2 ▸ hk)
      · have := hk2 (i - N - 1) (by omega)
        rw [show N + 1 + (i - N - 1) = i by omega] at this
        exact Or.inr this
    exact ⟨fun q => by omega, fun q => gm_0, fun q => by omega⟩
  · rw [if_neg (by omega)]
    exact h i (by omega) k hkk
theorem cpB_tg {a sp dp : Nat} (hb : b < 256) : ∀ n, dp + n ≤ 8388608 → ∀ i j, i < 256 → j < 16777216 → tg 32 (cpB T a sp b dp n) (ky i j) = if i = b ∧ dp ≤ j ∧ j < dp + n then tg 32 T (ky a (sp + (j - dp))) else tg 32 T (ky i j)
  | 0, _, i, j, _, _ => by rw [if_neg (by omega)]; rfl
  | n + 1, hn, i, j, hi, hj => by
    show tg 32 (ts 32 (cpB T a sp b dp n) (ky b (dp + n)) (tg 32 T (ky a (sp + n)))) (ky i j) = _
    rw [tg_ky hb (by omega) hi hj, cpB_tg hb n (by omega) i j hi hj]
    by_cases h1 : i = b ∧ j = dp + n
    · rw [if_pos h1, if_pos ⟨h1.1, by omega, by omega⟩, show sp + (j - dp) = sp + n by omega]
    · rw [if_neg h1]
      by_cases h2 : i = b ∧ dp ≤ j ∧ j < dp + n
      · rw [if_pos h2, if_pos ⟨h2.1, by omega, by omega⟩]
      · rw [if_neg h2, if_neg (by omega)]
theorem cpR_if (f : tF) (a sp b dp n i j : Nat) : cpR f a sp b dp n i j = if i = b ∧ dp ≤ j ∧ j < dp + n then f a (sp + (j - dp)) else f i j := by
  unfold cpR
  by_cases h : i = b ∧ dp ≤ j ∧ j < dp + n
  · rw [if_pos h, h.1, Nat.beq_refl, Nat.ble_eq_true_of_le h.2.1, Nat.ble_eq_true_of_le (show j + 1 ≤ dp + n by omega)]; rfl
  · rw [if_neg h]
    have e : (Nat.beq i b && (Nat.ble dp j && Nat.ble (j + 1) (dp + n))) = false := by
      cases h1 : Nat.beq i b <;> cases h2 : Nat.ble dp j <;> cases h3 : Nat.ble (j + 1) (dp + n) <;> first | rfl | exact absurd ⟨Nat.eq_of_beq_eq_true h1, Nat.le_of_ble_eq_true h2, Nat.le_of_ble_eq_true h3⟩ h
    rw [e]; rfl
theorem hp_cp {a sp dp n : Nat} (h : hp ρ md N T fi fr ai al) (hN : N ≤ 256) (ha : a < N) (hb : b < N) (ka : (shp md a).1 = 0) (kb : (shp md b).1 = 0) (h1 : sp + n ≤ 8388608) (h2 : dp + n ≤ 8388608) : hp ρ md N (cpB T a sp b dp n) fi fr (cpR ai a sp b dp n) al := by
  intro i hi k hkk
  obtain ⟨g1, g2, g3⟩ := h i hi k hkk
  have e1 := cpB_tg (T := T) (a := a) (sp := sp) (dp := dp) (b := b) (by omega) n h2 i k (by omega) (by omega)
  have e2 := cpB_tg (T := T) (a := a) (sp := sp) (dp := dp) (b := b) (by omega) n h2 i (8388608 + k) (by omega) (by omega)
  rw [if_neg (by omega)] at e2
  refine ⟨fun q => ⟨?_, ?_⟩, fun q => ?_, fun q => ?_⟩
  · rw [e1, if_neg (by rintro ⟨rfl, -⟩; omega)]
    exact (g1 q).1
  · exact (g1 q).2.trans (congrArg rR e2.symm)
  · rw [e1, cpR_if]
    by_cases hc : i = b ∧ dp ≤ k ∧ k < dp + n
    · rw [if_pos hc, if_pos hc]
      exact (h a ha (sp + (k - dp)) (by omega)).2.1 (by omega)
    · rw [if_neg hc, if_neg hc]
      exact g2 q
  · rw [e1, if_neg (by rintro ⟨rfl, -⟩; omega)]
    exact g3 q
theorem zi_cp {a sp dp n : Nat} (h : zi N T) (hN : N ≤ 256) (hb : b < N) (h2 : dp + n ≤ 8388608) : zi N (cpB T a sp b dp n) := by
  intro i h1 h3 k hk
  rw [cpB_tg (by omega) n h2 i k h3 hk, if_neg (by omega)]
  exact h i h1 h3 k hk
theorem isK_of {k : Nat} (h : isK md o k N = true) (hM : 10 ≤ md ∨ 233 ≤ N) : o < N ∧ (shp md o).1 = k := by
  obtain ⟨h1, h2⟩ := and_tt h
  refine ⟨?_, Nat.eq_of_beq_eq_true h2⟩
  unfold isL at h1
  cases h3 : Nat.ble 10 md
  · rw [h3] at h1
    have hlt : ¬ 10 ≤ md := fun q => by rw [Nat.ble_eq_true_of_le q] at h3; exact nomatch h3
    cases h4 : Nat.ble 233 o
    · have : ¬ 233 ≤ o := fun q => by rw [Nat.ble_eq_true_of_le q] at h4; exact nomatch h4
      omega
    · rw [h4] at h1
      exact Nat.le_of_ble_eq_true h1
  · rw [h3] at h1
    exact Nat.le_of_ble_eq_true h1
end Hp
