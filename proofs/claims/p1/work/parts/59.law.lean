/-! the law's run to a call, and from a call's end to its own -/
def Lq (i : Int) (x5 x6 : Option av) : List (Option av) := [some (.inr (.inl (some 999999))), some (.inr (.inl (some 0))), some (.inr (.inl (some 54))), some (.inr (.inl (some 232))), some (.inl i), x5, x6]
def lwT : List Nat := [228, 301, 357, 370, 438, 494, 550, 618, 698, 778, 846, 914, 982, 1038, 1094, 1107, 1175, 1188, 1244, 1300, 1356, 1369, 1382, 1395, 1451, 1464, 1477, 1557, 1625, 1638, 1694, 1774, 1854, 1910, 1978, 2046, 2126, 2182, 2238, 2294, 2307, 2320, 2345]
theorem tsw_ix {f : Nat → Prop} {z : Int} : ∀ (l : List Nat) (k : Int), (∀ (i t : Nat), l[i]? = some t → z = k + (i : Int) → f t) → tsw f z k l
  | [], _, _ => trivial
  | a :: l, k, h => ⟨fun e => h 0 a rfl (by omega), tsw_ix l (k + 1) (fun i t hi hz => h (i + 1) t hi (by omega))⟩
section Law2
variable {scX : Nat → Int} {Nf N : Nat} {fi : tF} {fr : tR} {ai : tF} {al : tL}
theorem law_sw {op : Nat} (hop : b32 (fun p q => p &&& q) (scX 0) 63 = (op : Int)) (h43 : op < 43) (h : ∀ t, lwT[op]? = some t → Rc 11 (KL 1 6 scX 31) (mt 248) PL Nf 6 scX t (Lq 0 none none) [] N fi fr ai al) : Rc 11 (KL 1 6 scX 31) (mt 248) PL Nf 6 scX 23 (Lq 0 none none) [] N fi fr ai al := by
  refine rcl_go [] 11 ?_
  refine And.intro ⟨⟨by decide, by decide⟩, ⟨by decide, by decide⟩⟩ (And.intro (fun hh => absurd (show (0 : Int) < 0 from hh) (by decide)) (fun _ => ?_))
  refine And.intro ⟨by decide, by decide⟩ ?_
  refine And.intro (show rg (b32 (fun p q => p &&& q) (scX 0) 63) by rw [hop]; exact rg_sm (by omega) (by omega)) (And.intro (fun hh => ?_) ?_)
  · have hh : b32 (fun p q => p &&& q) (scX 0) 63 < 0 ∨ 42 < b32 (fun p q => p &&& q) (scX 0) 63 := hh
    rw [hop] at hh
    omega
  · refine tsw_ix lwT 0 (fun i t hi hz => ?_)
    have hz : b32 (fun p q => p &&& q) (scX 0) 63 = 0 + (i : Int) := hz
    rw [hop] at hz
    have e : i = op := by omega
    subst e
    exact h t hi
/-- one round is all: from the end of a call to the law's own -/
theorem law_end {x5 x6 : Option av} : Rc 11 (KL 1 6 scX 31) (mt 248) PL N 6 scX 2370 (Lq 0 x5 x6) [] N fi fr ai al := by
  refine rcl_go [] 12 ?_
  refine And.intro ⟨⟨by decide, by decide⟩, ⟨by decide, by decide⟩⟩ (And.intro (fun _ => ?_) (fun hh => absurd (show (0 : Int) < 6 by decide) hh))
  exact And.intro (Or.inr rfl) (And.intro rfl rfl)
theorem law_at {op t : Nat} (hop : b32 (fun p q => p &&& q) (scX 0) 63 = (op : Int)) (ht : lwT[op]? = some t) (h43 : op < 43) (hN0 : 233 ≤ Nf) (hN : Nf ≤ 244) (h : Rc 11 (KL 1 6 scX 31) (mt 248) PL Nf 6 scX t (Lq 0 none none) [] 233 h0I frB h0A h0L) : Good scX := by
  refine ⟨1, by decide, Nf, hN, ?_⟩
  have z63 : zi 54 T_63 := zi_bld (by decide) zi_t0 _ (and_tt lok_all).1
  have z124 : zi 232 T_124 := zi_bld (by decide) zi_t0 _ lok_124b
  refine rcl_go [23] 40 ?_
  refine And.intro (show 0 + 1 ≤ Nf by omega) ?_
  refine Exists.intro 54 (And.intro ⟨by decide, by omega⟩ ?_)
  refine Call_ge (d := 21) (e := 31) (by decide) ((okX_run (ρ := fun _ => 0) (Or.inr ⟨by decide, by decide⟩) kx_63b rfl (Or.inl (by decide)) zi_t0 (by decide)).2 [.inr (.inl (some 0))] _ _ _ _ ⟨rfl, trivial⟩ (hp_new hp_t0 zi_t0 (by decide) (by decide)) _ (fun o' fi1 fr1 ai1 al1 ho hh => ?_))
  rcases o' with (_ | v) | x
  · refine And.intro (show 54 + 1 ≤ Nf by omega) ?_
    refine Exists.intro 232 (And.intro ⟨by decide, by omega⟩ ?_)
    refine Call_ge (d := 21) (e := 31) (by decide) ((okX_run (ρ := fun _ => 0) (Or.inr ⟨by decide, by decide⟩) kx_124b rfl (Or.inl (by decide)) (zi_le z63 (by decide)) (by decide)).2 [.inr (.inl (some 54))] _ _ _ _ ⟨rfl, trivial⟩ (hp_new hh z63 (by decide) (by decide)) _ (fun o' fi2 fr2 ai2 al2 ho2 hh2 => ?_))
    rcases o' with (_ | v) | x
    · refine And.intro ⟨rfl, show 232 + 1 ≤ Nf by omega⟩ ?_
      refine rcl_ext (eqv_h0 (ρ := fun _ => 0) (hp_nar hh2 z124 (by decide) (by decide))) ?_
      exact law_sw hop h43 (fun t' ht' => by
        rw [ht] at ht'
        cases ht'
        exact h)
    · exact (ho2 : False).elim
    · exact (ho2 : False).elim
  · exact (ho : False).elim
  · exact (ho : False).elim
end Law2
