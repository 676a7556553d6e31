/-! CALLS OF THE LAW BY CASES: each number of the script lies in a range; one that is a single number is put in, any other is a token -/
noncomputable def rgAt : List (Int × Int) → Nat → Int × Int
  | [], _ => (-2147483648, 2147483647)
  | p :: _, 0 => p
  | _ :: t, j + 1 => rgAt t j
noncomputable def scO (rs : List (Int × Int)) (j : Nat) : Int := match j with
  | 0 => Int.ofNat 1099511627776
  | j + 1 => bif ieq (rgAt rs j).1 (rgAt rs j).2 then (rgAt rs j).1 else Int.ofNat (1099511627776 + (j + 1))
noncomputable def trO (rs : List (Int × Int)) (t : Nat) : Int × Int := match t with
  | 0 => (-2147483648, 2147483647)
  | t + 1 => rgAt rs t
/-- the two constructors; and the ways through a day -/
noncomputable def selC (y : Nat) : Bool := Nat.beq y 63 || Nat.beq y 124
noncomputable def selD (y : Nat) : Bool := Nat.beq y 112 || Nat.beq y 157
noncomputable def okV (md : Nat) (op : Int) (rs : List (Int × Int)) : Bool := okL md 6 (scO rs) (trO rs) op (slS (10 + md) 20000 selC) (slS md 20000 selD) 20000 30 2000
noncomputable def okW (md : Nat) (op : Int) : List (List (Int × Int)) → List (Int × Int) → Bool
  | [], acc => okV md op acc
  | A :: r, acc => A.all (fun p => okW md op r (acc ++ [p]))
def InR (scX : Nat → Int) : List (Int × Int) → Nat → Prop
  | [], _ => True
  | p :: t, k => (p.1 ≤ scX k ∧ scX k ≤ p.2) ∧ InR scX t (k + 1)
def Cov (scX : Nat → Int) : List (List (Int × Int)) → Nat → Prop
  | [], _ => True
  | A :: r, k => (∃ p ∈ A, p.1 ≤ scX k ∧ scX k ≤ p.2) ∧ Cov scX r (k + 1)
/-- the law answers true -/
def Good (scX : Nat → Int) : Prop := ∃ md, md < 3 ∧ ∃ Nf, Nf ≤ 244 ∧ Rc (10 + md) (KL md 6 scX 31) (mt 248) PL Nf 6 scX 0 (ent [.inr (.inl (some 999999))] 7) [] 0 z0 z1 z0 z2
section Light
variable {scX : Nat → Int}
theorem InR_at (hI : ∀ j, -2147483648 ≤ scX j ∧ scX j ≤ 2147483647) : ∀ (rs : List (Int × Int)) (k j : Nat), InR scX rs k → (rgAt rs j).1 ≤ scX (k + j) ∧ scX (k + j) ≤ (rgAt rs j).2
  | [], k, j, _ => hI _
  | p :: t, k, 0, h => h.1
  | p :: t, k, j + 1, h => by
    have := InR_at hI t (k + 1) j h.2
    rw [show k + 1 + j = k + (j + 1) by omega] at this
    exact this
theorem InR_app {p : Int × Int} : ∀ (rs : List (Int × Int)) (k : Nat), InR scX rs k → (p.1 ≤ scX (k + rs.length) ∧ scX (k + rs.length) ≤ p.2) → InR scX (rs ++ [p]) k
  | [], k, _, h => ⟨h, trivial⟩
  | q :: t, k, h, h2 => ⟨h.1, InR_app t (k + 1) h.2 (by rw [show k + 1 + t.length = k + (q :: t).length by rw [List.length_cons]; omega]; exact h2)⟩
theorem cnc_lt {z : Int} (h : z < 1099511627776) : cnc z = true := by
  rcases z with n | n
  · show Nat.ble n 1099511627775 = true
    rw [Nat.ble_eq]
    have : ((n : Nat) : Int) < 1099511627776 := h
    omega
  · rfl
theorem tok_gm {ρ : Nat → Int} (t : Nat) : gm ρ (Int.ofNat (1099511627776 + t)) (ρ t) := by
  refine ⟨fun q => ?_, fun _ _ => ?_⟩
  · have q : Nat.ble (1099511627776 + t) 1099511627775 = true := q
    rw [Nat.ble_eq] at q
    omega
  · show ρ t = ρ (1099511627776 + t - 1099511627776)
    rw [Nat.add_sub_cancel_left]
theorem eo_of (hI : ∀ j, -2147483648 ≤ scX j ∧ scX j ≤ 2147483647) {md : Nat} {op : Int} {rs : List (Int × Int)} (hr : InR scX rs 1) (hop : b32 (fun p q => p &&& q) (scX 0) 63 = op) (hc : cnc op = true) : EO (md, 6, scO rs, trO rs, op) scX 6 scX := by
  refine ⟨fun t _ => ?_, fun _ => ⟨rfl, fun j _ => ?_, hc, hop⟩⟩
  · cases t with
    | zero => exact hI 0
    | succ t =>
      have := InR_at hI rs 1 t hr
      rw [show 1 + t = t + 1 by omega] at this
      exact this
  · cases j with
    | zero => exact tok_gm 0
    | succ j =>
      have := InR_at hI rs 1 j hr
      rw [show 1 + j = j + 1 by omega] at this
      show gm scX (bif ieq (rgAt rs j).1 (rgAt rs j).2 then (rgAt rs j).1 else Int.ofNat (1099511627776 + (j + 1))) (scX (j + 1))
      cases e : ieq (rgAt rs j).1 (rgAt rs j).2
      · exact tok_gm (j + 1)
      · have e := (ieq_iff _ _).mp e
        have e2 : scX (j + 1) = (rgAt rs j).1 := by omega
        rw [e2]
        have := hI (j + 1)
        show gm scX (rgAt rs j).1 (rgAt rs j).1
        exact gm_self (cnc_lt (by omega))
theorem okV_run (hI : ∀ j, -2147483648 ≤ scX j ∧ scX j ≤ 2147483647) {md : Nat} (hmd : md < 3) {op : Int} {rs : List (Int × Int)} (hr : InR scX rs 1) (hop : b32 (fun p q => p &&& q) (scX 0) 63 = op) (hc : cnc op = true) (h : okV md op rs = true) : Good scX := by
  obtain ⟨Nf, h1, h2⟩ := okL_run (g := 20000) (d := 30) (f := 2000) hmd (eo_of hI hr hop hc) (st0 := slS (10 + md) 20000 selC) (st1 := slS md 20000 selD) (sb_sl (E := (10 + md, 6, scO rs, trO rs, op)) (shp_le0 hmd)) (sb_sl (E := (md, 6, scO rs, trO rs, op)) (shp_le hmd)) h
  exact ⟨md, hmd, Nf, h1, h2⟩
theorem okW_run (hI : ∀ j, -2147483648 ≤ scX j ∧ scX j ≤ 2147483647) {md : Nat} (hmd : md < 3) {op : Int} (hop : b32 (fun p q => p &&& q) (scX 0) 63 = op) (hc : cnc op = true) : ∀ (As : List (List (Int × Int))) (acc : List (Int × Int)), okW md op As acc = true → Cov scX As (1 + acc.length) → InR scX acc 1 → Good scX
  | [], acc, h, _, hr => okV_run hI hmd hr hop hc h
  | A :: r, acc, h, ⟨⟨p, hp, h1⟩, hcov⟩, hr => by
    have h2 := List.all_eq_true.mp (h : A.all (fun p => okW md op r (acc ++ [p])) = true) p hp
    refine okW_run hI hmd hop hc r (acc ++ [p]) h2 ?_ (InR_app acc 1 hr h1)
    rw [List.length_append, List.length_singleton, ← Nat.add_assoc]
    exact hcov
end Light
noncomputable def rX (lo hi : Int) : List (Int × Int) := [(-2147483648, lo - 1), (hi + 1, 2147483647)]
noncomputable def rT (lo hi : Int) : List (Int × Int) := [(lo, hi)]
noncomputable def rI (lo : Int) (n : Nat) : List (Int × Int) := (List.range n).map (fun i => (lo + Int.ofNat i, lo + Int.ofNat i))
noncomputable def rH (c : Int) : List (Int × Int) := [(-2147483648, c - 1), (c, 2147483647)]
theorem cov_X {lo hi x : Int} (hx : -2147483648 ≤ x ∧ x ≤ 2147483647) (h : ¬ (lo ≤ x ∧ x ≤ hi)) : ∃ p ∈ rX lo hi, p.1 ≤ x ∧ x ≤ p.2 := by
  by_cases h1 : lo ≤ x
  · exact ⟨(hi + 1, 2147483647), by simp [rX], by show hi + 1 ≤ x; omega, hx.2⟩
  · exact ⟨(-2147483648, lo - 1), by simp [rX], hx.1, by show x ≤ lo - 1; omega⟩
theorem cov_T {lo hi x : Int} (h : lo ≤ x ∧ x ≤ hi) : ∃ p ∈ rT lo hi, p.1 ≤ x ∧ x ≤ p.2 := ⟨(lo, hi), by simp [rT], h⟩
theorem cov_I {lo hi x : Int} {n : Nat} (hn : hi = lo + n - 1) (h : lo ≤ x ∧ x ≤ hi) : ∃ p ∈ rI lo n, p.1 ≤ x ∧ x ≤ p.2 := by
  have e : lo + Int.ofNat (x - lo).toNat = x := by
    show lo + (((x - lo).toNat : Nat) : Int) = x
    omega
  refine ⟨(x, x), ?_, Int.le_refl _, Int.le_refl _⟩
  unfold rI
  rw [List.mem_map]
  exact ⟨(x - lo).toNat, List.mem_range.mpr (by omega), by rw [e]⟩
theorem cov_H {c x : Int} (hx : -2147483648 ≤ x ∧ x ≤ 2147483647) : ∃ p ∈ rH c, p.1 ≤ x ∧ x ≤ p.2 := by
  by_cases h1 : c ≤ x
  · exact ⟨(c, 2147483647), by simp [rH], h1, hx.2⟩
  · exact ⟨(-2147483648, c - 1), by simp [rH], hx.1, by show x ≤ c - 1; omega⟩
