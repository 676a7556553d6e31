/-! mostWithBackwater and harmless -/
section MBack2
variable {scL : Nat} {scX : Nat → Int} {d : Nat} {fi : tF} {al : tL} {P : ot}
theorem bdM_up {A : tF} {M v : Int} {nr k : Nat} (hA : bdM M A) (hv : 0 ≤ v ∧ v ≤ M + 3) (hn : nr = 234 ∨ nr = 235) : bdM (M + 3) (up2 A nr k v) := by
  refine ⟨fun j => ?_, fun j => ?_⟩
  · rw [up2_if]
    split
    · exact hv
    · have := hA.1 j
      omega
  · rw [up2_if]
    split
    · exact hv
    · have := hA.2 j
      omega
/-- rows while a quarter is gone through: the far one is as it was -/
def mbI (M : Int) (nr fa : Nat) (a0 A : tF) : Prop := (∀ o, o ≠ 234 → o ≠ 235 → A o = a0 o) ∧ (∀ k, 0 ≤ A fa k ∧ A fa k ≤ M) ∧ (∀ k, 0 ≤ A nr k ∧ A nr k ≤ M + 3)
theorem mb_o2 {nr fa : Nat} (hnf : nfo nr fa) {a0 A : tF} {q cm u wo M : Int} (hq : 0 ≤ q ∧ q < 96) (hM : 0 ≤ M ∧ M ≤ 1000) (hcm : 0 ≤ cm ∧ cm ≤ 2) (hu : 0 ≤ u ∧ u ≤ 20) (hwo : wo = 0 ∨ wo = 1) (hA : mbI M nr fa a0 A) (hk : ∀ most x9 x10, 0 ≤ most ∧ most ≤ M + 3 → Rc 1 (Call 1 scL scX (d + 1)) (mt 52) P 244 scL scX 147 (Lk2 q cm (some (.inl u)) (some (.inl wo)) (some (.inl most)) x9 x10) [] 244 fi (cH nr fa) (cA A) al) :
    ∀ (n : Nat) (o most : Int) (x10 : Option av), 0 ≤ o → o + n = 4 → 0 ≤ most ∧ most ≤ M + 3 → Rc 1 (Call 1 scL scX (d + 1)) (mt 52) P 244 scL scX 83 (Lk q cm u wo most o x10) [] 244 fi (cH nr fa) (cA A) al := by
  intro n
  induction n with
  | zero =>
    intro o most x10 ho hn hm
    refine rc_go [147] 12 ?_
    refine And.intro ⟨hq.1, by show q < 192; omega⟩ ?_
    exact And.intro ⟨rg_sm (by omega) (by omega), show rg 3 from ⟨by decide, by decide⟩⟩ (And.intro (fun _ => hk _ _ _ hm) (fun h => absurd (show (3 : Int) < o by omega) h))
  | succ n ih =>
    intro o most x10 ho hn hm
    have bm := gM_b (a := o) (x := u) ⟨ho, by omega⟩ hu
    have eg := gM_min (o := o) (up := u)
    have hx : 0 ≤ (if u < o * 1 then u else o * 1) ∧ (if u < o * 1 then u else o * 1) ≤ 3 ∧ (if u < o * 1 then u else o * 1) ≤ u := by rw [eg]; exact bm
    have bc := gC_b (a := 20) (b := u - (if u < o * 1 then u else o * 1) + cm) (by omega) (by decide)
    have hxw : 0 ≤ (if u < o * 1 then u else o * 1) * wo ∧ (if u < o * 1 then u else o * 1) * wo ≤ 3 := by
      rcases hwo with rfl | rfl <;> omega
    refine rc_go [83] 60 ?_
    refine And.intro ⟨hq.1, by show q < 192; omega⟩ ?_
    refine And.intro ⟨rg_sm (by omega) (by omega), show rg 3 from ⟨by decide, by decide⟩⟩ (And.intro (fun h => absurd (show (3 : Int) < o from h) (by omega)) (fun _ => ?_))
    refine And.intro ⟨by decide, by decide⟩ (And.intro ⟨rg_sm (by omega) (by omega), rg_sm (x := o * 1) (by omega) (by omega)⟩ ?_)
    refine And.intro ⟨⟨by decide, by decide⟩, rg_sm (x := u - (if u < o * 1 then u else o * 1) + cm) (by omega) (by omega)⟩ ?_
    have bA := hA.2.1 (gC 20 (u - (if u < o * 1 then u else o * 1) + cm)).toNat
    have hs : 0 ≤ (if u < o * 1 then u else o * 1) * wo + A fa (gC 20 (u - (if u < o * 1 then u else o * 1) + cm)).toNat ∧ (if u < o * 1 then u else o * 1) * wo + A fa (gC 20 (u - (if u < o * 1 then u else o * 1) + cm)).toNat ≤ M + 3 := by omega
    have key := ih (o + 1) (if most < (if u < o * 1 then u else o * 1) * wo + A fa (gC 20 (u - (if u < o * 1 then u else o * 1) + cm)).toNat then (if u < o * 1 then u else o * 1) * wo + A fa (gC 20 (u - (if u < o * 1 then u else o * 1) + cm)).toNat else most) (some (.inl (if u < o * 1 then u else o * 1))) (by omega) (by omega) (by
      clear ih hk
      generalize (if u < o * 1 then u else o * 1) * wo + A fa (gC 20 (u - (if u < o * 1 then u else o * 1) + cm)).toNat = t at *
      split <;> omega)
    rcases hnf with ⟨rfl, rfl⟩ | ⟨rfl, rfl⟩
    · refine And.intro ⟨bc.1, by show gC 20 (u - (if u < o * 1 then u else o * 1) + cm) < 1681; omega⟩ ?_
      refine And.intro ⟨rg_sm (by omega) (by omega), rg_sm (x := (if u < o * 1 then u else o * 1) * wo + A 235 (gC 20 (u - (if u < o * 1 then u else o * 1) + cm)).toNat) (by omega) (by omega)⟩ ?_
      exact key
    · refine And.intro ⟨bc.1, by show gC 20 (u - (if u < o * 1 then u else o * 1) + cm) < 1681; omega⟩ ?_
      refine And.intro ⟨rg_sm (by omega) (by omega), rg_sm (x := (if u < o * 1 then u else o * 1) * wo + A 234 (gC 20 (u - (if u < o * 1 then u else o * 1) + cm)).toNat) (by omega) (by omega)⟩ ?_
      exact key
theorem mb_u {nr fa : Nat} (hnf : nfo nr fa) {a0 : tF} {q cm M : Int} (hq : 0 ≤ q ∧ q < 96) (hM : 0 ≤ M ∧ M ≤ 1000) (hcm : 0 ≤ cm ∧ cm ≤ 2) (hk : ∀ A x6 x7 x8 x9 x10, mbI M nr fa a0 A → Rc 1 (Call 1 scL scX (d + 1)) (mt 52) P 244 scL scX 162 (Lk2 q cm x6 x7 x8 x9 x10) [] 244 fi (cH nr fa) (cA A) al) :
    ∀ (n : Nat) (u : Int) (A : tF) (x7 x8 x9 x10 : Option av), 0 ≤ u → u + n = 21 → mbI M nr fa a0 A → Rc 1 (Call 1 scL scX (d + 1)) (mt 52) P 244 scL scX 51 (Lk2 q cm (some (.inl u)) x7 x8 x9 x10) [] 244 fi (cH nr fa) (cA A) al := by
  intro n
  induction n with
  | zero =>
    intro u A x7 x8 x9 x10 h0 hn hA
    refine rc_go [162] 12 ?_
    exact And.intro ⟨rg_sm (by omega) (by omega), ⟨by decide, by decide⟩⟩ (And.intro (fun _ => hk A _ _ _ _ _ hA) (fun h => absurd (show (20 : Int) < u by omega) h))
  | succ n ih =>
    intro u A x7 x8 x9 x10 h0 hn hA
    have hu : 0 ≤ u ∧ u ≤ 20 := ⟨h0, by omega⟩
    have rest : ∀ wo, wo = 0 ∨ wo = 1 → Rc 1 (Call 1 scL scX (d + 1)) (mt 52) P 244 scL scX 83 (Lk q cm u wo 0 0 x10) [] 244 fi (cH nr fa) (cA A) al := by
      intro wo hwo
      refine mb_o2 hnf hq hM hcm hu hwo hA (fun most y9 y10 hm => ?_) 4 0 0 x10 (by decide) (by decide) ⟨by decide, by omega⟩
      have key := ih (u + 1) (up2 A nr u.toNat most) (some (.inl wo)) (some (.inl most)) y9 y10 (by omega) (by omega) ⟨fun o z1 z2 => by
        rw [up2_row (by unfold nfo at hnf; omega)]
        exact hA.1 o z1 z2, fun k => by
        rw [up2_row (by unfold nfo at hnf; omega)]
        exact hA.2.1 k, fun k => by
        rw [up2_if]
        split
        · exact hm
        · exact hA.2.2 k⟩
      refine rc_go [51] 20 ?_
      rcases hnf with ⟨rfl, rfl⟩ | ⟨rfl, rfl⟩
      · rw [← cA_up rfl] at key
        refine And.intro ⟨hu.1, by show u < 1681; omega⟩ ?_
        exact key
      · rw [← cA_up rfl] at key
        refine And.intro ⟨hu.1, by show u < 1681; omega⟩ ?_
        exact key
    refine rc_go [83] 40 ?_
    refine And.intro ⟨rg_sm (by omega) (by omega), ⟨by decide, by decide⟩⟩ (And.intro (fun h => absurd (show (20 : Int) < u from h) (by omega)) (fun _ => ?_))
    refine And.intro ⟨by decide, by decide⟩ ?_
    refine And.intro ⟨rg_sm (x := u - 0) (by omega) (by omega), show rg 5 from ⟨by decide, by decide⟩⟩ (And.intro (fun _ => ?_) (fun _ => ?_))
    · exact rest 0 (Or.inl rfl)
    · exact rest 1 (Or.inr rfl)
theorem c_swapH {nr fa : Nat} {ai : tF} (hP : P (.inl none) fi (cH fa nr) ai al) : Call 1 scL scX (d + 1) 42 [.inr (.inl (some 233))] 244 fi (cH nr fa) ai al 244 P := by
  refine ⟨⟨Nat.le_refl _, rfl⟩, rc_go [] 14 ?_⟩
  refine And.intro rfl ?_
  rw [← cH_sw] at hP
  exact hP
theorem mb_q {a0 : tF} (hP : ∀ nr fa A V, nfo nr fa → (∀ o, o ≠ 234 → o ≠ 235 → A o = a0 o) → P (.inl (some (.inl V))) fi (cH nr fa) (cA A) al) :
    ∀ (n : Nat) (q : Int) (nr fa : Nat) (A : tF) (x5 x6 x7 x8 x9 x10 : Option av), q + 1 = n → q < 96 → nfo nr fa → (∀ o, o ≠ 234 → o ≠ 235 → A o = a0 o) → bdM (3 * (95 - q)) A → Rc 1 (Call 1 scL scX (d + 1)) (mt 52) P 244 scL scX 19 (Lk3 q x5 x6 x7 x8 x9 x10) [] 244 fi (cH nr fa) (cA A) al := by
  intro n
  induction n with
  | zero =>
    intro q nr fa A x5 x6 x7 x8 x9 x10 hn hq hnf hA hb
    have e : q = -1 := by omega
    subst e
    refine rc_go [] 40 ?_
    refine And.intro ⟨⟨by decide, by decide⟩, ⟨by decide, by decide⟩⟩ (And.intro (fun _ => ?_) (fun h => absurd (by decide : (-1 : Int) < 0) h))
    refine And.intro ⟨by decide, by decide⟩ (And.intro ⟨by decide, by decide⟩ ?_)
    refine And.intro ⟨⟨by decide, by decide⟩, show rg (10 + 2) from ⟨by decide, by decide⟩⟩ ?_
    rcases hnf with ⟨rfl, rfl⟩ | ⟨rfl, rfl⟩
    · refine And.intro (show inb 12 1681 from ⟨by decide, by decide⟩) ?_
      exact And.intro rfl (hP _ _ _ _ (Or.inl ⟨rfl, rfl⟩) hA)
    · refine And.intro (show inb 12 1681 from ⟨by decide, by decide⟩) ?_
      exact And.intro rfl (hP _ _ _ _ (Or.inr ⟨rfl, rfl⟩) hA)
  | succ n ih =>
    intro q nr fa A x5 x6 x7 x8 x9 x10 hn hq hnf hA hb
    have h0 : 0 ≤ q := by omega
    have hbf : (∀ k, 0 ≤ A fa k ∧ A fa k ≤ 3 * (95 - q)) ∧ (∀ k, 0 ≤ A nr k ∧ A nr k ≤ 3 * (95 - q) + 3) := by
      unfold nfo at hnf
      rcases hnf with ⟨rfl, rfl⟩ | ⟨rfl, rfl⟩
      · exact ⟨hb.2, fun k => by have := hb.1 k; omega⟩
      · exact ⟨hb.1, fun k => by have := hb.2 k; omega⟩
    have rest : ∀ cm, 0 ≤ cm ∧ cm ≤ 2 → Rc 1 (Call 1 scL scX (d + 1)) (mt 52) P 244 scL scX 51 (Lk2 q cm (some (.inl 0)) x7 x8 x9 x10) [] 244 fi (cH nr fa) (cA A) al := by
      intro cm hcm
      refine mb_u (a0 := a0) (M := 3 * (95 - q)) hnf ⟨h0, hq⟩ (by omega) hcm (fun A' y6 y7 y8 y9 y10 hi => ?_) 21 0 A x7 x8 x9 x10 (by decide) (by decide) ⟨hA, hbf.1, hbf.2⟩
      refine rc_go [19] 12 ?_
      refine Exists.intro 244 (And.intro ⟨by decide, by decide⟩ (c_swapH ?_))
      refine ih (q - 1) fa nr A' _ _ _ _ _ _ (by omega) (by omega) (by unfold nfo at hnf ⊢; omega) hi.1 ?_
      unfold nfo at hnf
      rcases hnf with ⟨rfl, rfl⟩ | ⟨rfl, rfl⟩
      · exact ⟨fun k => by have := hi.2.2 k; omega, fun k => by have := hi.2.1 k; omega⟩
      · exact ⟨fun k => by have := hi.2.1 k; omega, fun k => by have := hi.2.2 k; omega⟩
    refine rc_go [51] 30 ?_
    refine And.intro ⟨rg_sm (by omega) (by omega), ⟨by decide, by decide⟩⟩ (And.intro (fun h => absurd (show q < 0 from h) (by omega)) (fun _ => ?_))
    refine And.intro ⟨rg_sm (by omega) (by omega), ⟨by decide, by decide⟩⟩ (And.intro (fun _ => ?_) (fun hlt => ?_))
    · exact rest 0 ⟨by decide, by decide⟩
    · have hlt : ¬ (96 : Int) ≤ q + 1 := hlt
      refine And.intro ⟨by omega, by show q + 1 < 96; omega⟩ ?_
      exact rest 2 ⟨by decide, by decide⟩
theorem c_mostBack {ai : tF} (hb : bdM 0 ai) (hP : ∀ nr fa A V, nfo nr fa → (∀ o, o ≠ 234 → o ≠ 235 → A o = ai o) → P (.inl (some (.inl V))) fi (cH nr fa) (cA A) al) : Call 1 scL scX (d + 2) 52 [.inr (.inl (some 233)), .inr (.inl (some 3)), .inl 0] 244 fi (cH 234 235) (cA ai) al 244 P := by
  refine ⟨⟨by decide, rfl⟩, rc_go [19] 20 ?_⟩
  refine And.intro ⟨by decide, by decide⟩ ?_
  refine Exists.intro 244 (And.intro ⟨by decide, by decide⟩ (c_fill_235 ?_))
  rw [fN_cA (by decide)]
  refine mb_q (a0 := ai) hP 96 95 234 235 _ _ _ _ _ _ _ (by decide) (by decide) (Or.inl ⟨rfl, rfl⟩) (fun o z1 z2 => fN_row z2) ⟨fun k => ?_, fun k => ?_⟩
  · rw [fN_row (by decide)]
    exact hb.1 k
  · unfold fN
    split
    · exact ⟨Int.le_refl 0, Int.le_refl 0⟩
    · exact hb.2 k
end MBack2
theorem g_25 {scX : Nat → Int} (hop : b32 (fun p q => p &&& q) (scX 0) 63 = 25) : Good scX := by
  refine gb_25 hop ?_
  rw [← cA_h0]
  refine ⟨⟨by decide, rfl⟩, rc_go [] 40 ?_⟩
  refine Exists.intro 244 (And.intro ⟨by decide, by decide⟩ (c_ready (d := 28) ?_))
  rw [clS_cA, cH_0]
  refine Exists.intro 244 (And.intro ⟨by decide, by decide⟩ (c_mostBack (d := 28) ⟨fun k => show (0 : Int) ≤ 0 ∧ (0 : Int) ≤ 0 from ⟨by decide, by decide⟩, fun k => show (0 : Int) ≤ 0 ∧ (0 : Int) ≤ 0 from ⟨by decide, by decide⟩⟩ (fun nr fa A V hn hA => ?_)))
  refine And.intro ⟨⟨by decide, by decide⟩, ⟨by decide, by decide⟩⟩ (And.intro (fun h => absurd (show (40 : Int) < 0 from h) (by decide)) (fun _ => ?_))
  refine And.intro ⟨⟨by decide, by decide⟩, show rg (40 - 40) from ⟨by decide, by decide⟩⟩ ?_
  refine And.intro (fun _ => ?_) (fun h => absurd (show (if (0 : Int) < 40 - 40 then (40 - 40 : Int) else 0) = 0 by decide) h)
  refine And.intro rfl ⟨40, rfl, ?_⟩
  have e : ∀ o, o < 234 → A o = h0A o := fun o ho => by rw [hA o (by omega) (by omega), clS_row ho]
  have eF : rF (cH nr fa) = cH nr fa := rF_id (fun _ => rfl)
  rw [← eF, ← rA_h0 (e 58 (by decide)) (e 60 (by decide))]
  exact c_mharm (d := 26) (fun fi' A => rfl)
