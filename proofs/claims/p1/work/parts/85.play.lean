/-! play of the class: what gains, rests, comes round -/
/-- the class between the turns of a play: plans p, all else that the reference looks at is fresh -/
def cP (p : Nat → Int) (fi ai : tF) : Prop := (∀ o, o ≠ 0 → o ≠ 48 → o ≠ 233 → fi o = h0I o) ∧ plO (some 29) ai p ∧ bnd ai ∧ (∀ o, 53 < o → o < 234 → ai o = h0A o)
def oU (p : Nat → Int) (q : Nat) : Int := p q
def oL (p : Nat → Int) (q : Nat) : Int := p (96 + q)
theorem ab_p {p : Nat → Int} (hp : ∀ k, 0 ≤ p k ∧ p k ≤ 3) : ab3 (oU p) ∧ ab3 (oL p) := ⟨fun k _ => hp k, fun k _ => hp _⟩
theorem sM_b {m : Int} {A B : Nat → Int} (hA : ab3 A) (hB : ab3 B) : 0 ≤ sM m A B ∧ sM m A B ≤ 288 := by
  have h := sA_b s0_ok hA hB 96 (by decide)
  unfold sM
  split
  · exact h.1
  · exact h.2
section Play
variable {scL : Nat} {scX : Nat → Int} {d : Nat} {fi : tF} {ai : tF} {al : tL} {P : ot} {nr fa : Nat} {m V G : Int} {p : Nat → Int}
/-- gains, from its test on -/
theorem gn_end {f : tF} {fr : tR} {a : tF} {l : tL} {x1 : List (Option av)} (hV : 0 ≤ V ∧ V ≤ 5184) (hG : 0 ≤ G ∧ G ≤ 288) (hP : P (.inl (some (.inl (if V ≤ G then 0 else 1)))) f fr a l) : Rc 1 (Call 1 scL scX d) (mt 123) P 244 scL scX 10 x1 [.inl G, .inl V] 244 f fr a l := by
  refine rc_go [] 10 ?_
  refine And.intro ⟨rg_sm (by omega) (by omega), rg_sm (by omega) (by omega)⟩ (And.intro (fun h => ?_) (fun h => ?_))
  · have h : V ≤ G := h
    rw [if_pos h] at hP
    exact And.intro (Or.inl rfl) (And.intro rfl hP)
  · have h : ¬ V ≤ G := h
    rw [if_neg h] at hP
    exact And.intro (Or.inr rfl) (And.intro rfl hP)
/-- behind the reply's value and the day: as between turns, and ready for the walk -/
theorem gn_ok {f1 a1 f2 a2 : tF} {l1 : tL} (h : cP p fi ai) (hr : rpO m 40 p fi ai al f1 a1 l1) (hg : gdO (oU p) (oL p) f1 a1 f2 a2) : cP p f2 a2 ∧ rpO m 40 p f2 a2 l1 f2 a2 l1 := by
  obtain ⟨c1, c2, c3, c4⟩ := h
  obtain ⟨r1, r2, r3, r4, r5, r6, r7, r8, r9, r10⟩ := hr
  obtain ⟨g1, g2, g3, -⟩ := hg
  have b2 : bnd a2 := by
    unfold bnd
    rw [g3 234 (Or.inr (by decide)), g3 235 (Or.inr (by decide))]
    exact r5
  refine ⟨⟨fun o h0 h48 h233 => ?_, ?_, b2, fun o h1 h2 => ?_⟩, ⟨fun _ _ => rfl, ?_, ?_, fun _ _ => rfl, b2, ?_, ?_, fun _ _ => rfl, r9, r10⟩⟩
  · rw [g2 o h48, r1 o h233]
    exact c1 o h0 h48 h233
  · unfold plO at c2 ⊢
    rw [g3 29 (Or.inl (by decide)), r4 29 (by decide)]
    exact c2
  · rw [g3 o (Or.inr (by omega)), r4 o h2]
    exact c4 o h1 h2
  · rw [g2 233 (by decide)]
    exact r2
  · rw [g2 233 (by decide)]
    exact r3
  · rw [g3 239 (Or.inr (by decide))]
    exact r6
  · rw [g3 241 (Or.inr (by decide))]
    exact r7
theorem cP_29 (h : cP p fi ai) : (∀ q, q < 96 → ai 29 q = oU p q) ∧ (∀ q, q < 96 → ai 29 (96 + q) = oL p q) := by
  rcases h.2.1.2 with ⟨e, -⟩ | ⟨-, e⟩
  · exact nomatch e
  · exact ⟨fun q hq => e q (by omega), fun q hq => e (96 + q) (by omega)⟩
theorem c_gains0 (hm : m = 0 ∨ m = 1) (hb : cP p fi ai) (hV : vOne m 40 p = V) (hG : sM m (oU p) (oL p) = G)
    (hP : ∀ nr fa fi' ai' al', nfo nr fa → cP p fi' ai' → rpO m 40 p fi' ai' al' fi' ai' al' → P (.inl (some (.inl (if V ≤ G then 0 else 1)))) fi' (cF nr fa frB) (cA ai') al') :
    Call 1 scL scX (d + 5) 123 [.inr (.inl (some 0)), .inl m] 233 fi frB (cA ai) al 244 P := by
  have hp := hb.2.1.1
  obtain ⟨hA, hB⟩ := ab_p hp
  have bV := vOne_b (mk := 40) hm hp
  have bG := sM_b (m := m) hA hB
  rw [hV] at bV
  rw [hG] at bG
  obtain ⟨o1, o2⟩ := cP_29 hb
  refine ⟨⟨by decide, rfl⟩, rc_go [10] 20 ?_⟩
  refine Exists.intro 244 (And.intro ⟨by decide, by decide⟩ (c_mbr0 (d := d) hm hb.2.1 (congrFun (hb.1 3 (by decide) (by decide) (by decide)) 6) ⟨by decide, by decide⟩ hV (fun nr fa f1 a1 l1 hn hr => ?_)))
  rw [← dF_cF]
  refine Exists.intro 244 (And.intro ⟨by decide, by decide⟩ (c_groundP (d := d) (A := oU p) (B := oL p) hm hA hB (fun q hq => by rw [hr.2.2.2.1 29 (by decide)]; exact o1 q hq) (fun q hq => by rw [hr.2.2.2.1 29 (by decide)]; exact o2 q hq) (by rw [hr.1 3 (by decide)]; exact congrFun (hb.1 3 (by decide) (by decide) (by decide)) 6) hG (fun f2 a2 hg => ?_)))
  obtain ⟨k1, k2⟩ := gn_ok hb hr hg
  refine gn_end bV bG ?_
  rw [dF_cF]
  exact hP nr fa f2 a2 l1 hn k1 k2
theorem c_gains2 (hnf : nfo nr fa) (hm : m = 0 ∨ m = 1) (hb : cP p fi ai) (hV : vOne m 40 p = V) (hG : sM m (oU p) (oL p) = G)
    (hP : ∀ nr fa fi' ai' al', nfo nr fa → cP p fi' ai' → rpO m 40 p fi' ai' al' fi' ai' al' → P (.inl (some (.inl (if V ≤ G then 0 else 1)))) fi' (cF nr fa frB) (cA ai') al') :
    Call 1 scL scX (d + 5) 123 [.inr (.inl (some 0)), .inl m] 244 fi (cF nr fa frB) (cA ai) al 244 P := by
  have hp := hb.2.1.1
  obtain ⟨hA, hB⟩ := ab_p hp
  have bV := vOne_b (mk := 40) hm hp
  have bG := sM_b (m := m) hA hB
  rw [hV] at bV
  rw [hG] at bG
  obtain ⟨o1, o2⟩ := cP_29 hb
  refine ⟨⟨by decide, rfl⟩, rc_go [10] 20 ?_⟩
  refine Exists.intro 244 (And.intro ⟨by decide, by decide⟩ (c_mbr2 (d := d) hnf hm hb.2.1 (congrFun (hb.1 3 (by decide) (by decide) (by decide)) 6) ⟨by decide, by decide⟩ hV hb.2.2.1 (fun nr fa f1 a1 l1 hn hr => ?_)))
  rw [← dF_cF]
  refine Exists.intro 244 (And.intro ⟨by decide, by decide⟩ (c_groundP (d := d) (A := oU p) (B := oL p) hm hA hB (fun q hq => by rw [hr.2.2.2.1 29 (by decide)]; exact o1 q hq) (fun q hq => by rw [hr.2.2.2.1 29 (by decide)]; exact o2 q hq) (by rw [hr.1 3 (by decide)]; exact congrFun (hb.1 3 (by decide) (by decide) (by decide)) 6) hG (fun f2 a2 hg => ?_)))
  obtain ⟨k1, k2⟩ := gn_ok hb hr hg
  refine gn_end bV bG ?_
  rw [dF_cF]
  exact hP nr fa f2 a2 l1 hn k1 k2
/-- restsAhead behind the first turn -/
theorem c_rests1 {t : Int} (ht : t = 1 ∨ t = 2) (hnf : nfo nr fa) (hm : t.tmod 2 = m) (hb : cP p fi ai) (hV : vOne m 40 p = V) (hG : sM m (oU p) (oL p) = G)
    (hP : ∀ nr fa fi' ai' al', nfo nr fa → cP p fi' ai' → rpO m 40 p fi' ai' al' fi' ai' al' → P (.inl (some (.inl (if V ≤ G then 1 else 0)))) fi' (cF nr fa frB) (cA ai') al') :
    Call 1 scL scX (d + 6) 122 [.inr (.inl (some 0)), .inl t] 244 fi (cF nr fa frB) (cA ai) al 244 P := by
  have hm2 : m = 0 ∨ m = 1 := by
    rcases ht with rfl | rfl
    · exact Or.inr hm.symm
    · exact Or.inl hm.symm
  refine ⟨⟨by decide, rfl⟩, rc_go [] 40 ?_⟩
  refine And.intro (fun _ => And.intro (rg_sm (by omega) (by omega)) (And.intro ⟨by decide, by decide⟩ ?_)) (fun h => absurd (show t = 0 from h) (by omega))
  refine And.intro ⟨rg_sm (by omega) (by omega), ⟨by decide, by decide⟩, by decide⟩ ?_
  rw [hm]
  refine Exists.intro 244 (And.intro ⟨by decide, by decide⟩ (c_gains2 hnf hm2 hb hV hG (fun nr fa f2 a2 l2 hn k1 k2 => ?_)))
  have k := hP nr fa f2 a2 l2 hn k1 k2
  by_cases h : V ≤ G
  · rw [if_pos h] at k ⊢
    refine And.intro (fun h => absurd rfl h) (fun _ => ?_)
    refine And.intro (fun h => absurd rfl h) (fun _ => ?_)
    exact And.intro (Or.inr rfl) (And.intro rfl k)
  · rw [if_neg h] at k ⊢
    refine And.intro (fun _ => And.intro ⟨by decide, by decide⟩ (And.intro ⟨by decide, by decide⟩ ?_)) (fun h => absurd h (by decide))
    exact And.intro (Or.inl rfl) (And.intro rfl k)
/-- restsAhead at the first turn, where the upper gains -/
theorem c_rests0 {V1 G1 : Int} (hb : cP p fi ai) (hV1 : vOne 1 40 p = V1) (hG1 : sM 1 (oU p) (oL p) = G1) (hV : vOne 0 40 p = V) (hG : sM 0 (oU p) (oL p) = G) (hlt : ¬ V ≤ G)
    (hP : ∀ nr fa fi' ai' al', nfo nr fa → cP p fi' ai' → rpO 0 40 p fi' ai' al' fi' ai' al' → P (.inl (some (.inl 0))) fi' (cF nr fa frB) (cA ai') al') :
    Call 1 scL scX (d + 6) 122 [.inr (.inl (some 0)), .inl 0] 233 fi frB (cA ai) al 244 P := by
  refine ⟨⟨by decide, rfl⟩, rc_go [18] 40 ?_⟩
  refine And.intro (fun h => absurd rfl h) (fun _ => ?_)
  refine Exists.intro 244 (And.intro ⟨by decide, by decide⟩ (c_gains0 (m := 1) (Or.inr rfl) hb hV1 hG1 (fun nr fa f1 a1 l1 hn k1 k2 => ?_)))
  have rest : ∀ x2, Rc 1 (Call 1 scL scX (d + 5)) (mt 122) P 244 scL scX 18 [some (.inr (.inl (some 0))), some (.inl 0), some (.inl x2)] [] 244 f1 (cF nr fa frB) (cA a1) l1 := by
    intro x2
    refine rc_go [] 40 ?_
    refine And.intro ⟨⟨by decide, by decide⟩, ⟨by decide, by decide⟩, by decide⟩ ?_
    refine Exists.intro 244 (And.intro ⟨by decide, by decide⟩ (c_gains2 (m := 0) hn (Or.inl rfl) k1 hV hG (fun nr2 fa2 f2 a2 l2 hn2 j1 j2 => ?_)))
    rw [if_neg hlt]
    refine And.intro (fun _ => And.intro ⟨by decide, by decide⟩ (And.intro ⟨by decide, by decide⟩ ?_)) (fun h => absurd h (by decide))
    exact And.intro (Or.inl rfl) (And.intro rfl (hP nr2 fa2 f2 a2 l2 hn2 j1 j2))
  by_cases h : V1 ≤ G1
  · rw [if_pos h]
    refine And.intro (fun _ => ?_) (fun h => absurd rfl h)
    exact rest 0
  · rw [if_neg h]
    refine And.intro (fun h => absurd h (by decide)) (fun _ => And.intro ⟨by decide, by decide⟩ (And.intro ⟨by decide, by decide⟩ ?_))
    exact rest 1
/-- Arrays.fill of six longs -/
def alO (l0 l : tL) : Prop := ∀ o, o ≠ 52 → l o = l0 o
theorem alO_up {l0 l : tL} {k : Nat} {v : Int64} (h : alO l0 l) : alO l0 (up2 l 52 k v) := fun o ho => by
  rw [up2_row ho]
  exact h o ho
theorem fl6 {l0 : tL} {fr : tR} {w : Int64} (hP : ∀ l, alO l0 l → P (.inl none) fi fr ai l) : ∀ (n : Nat) (i : Int) (l : tL), 0 ≤ i → i + n = 6 → alO l0 l → Rc 1 (Call 1 scL scX d) (mt 216) P 244 scL scX 10 [some (.inr (.inl (some 52))), some (.inl 0), some (.inl 6), some (.inr (.inr w)), none, some (.inl i)] [] 244 fi fr ai l := by
  intro n
  induction n with
  | zero =>
    intro i l h0 hn hl
    refine rc_go [] 10 ?_
    exact And.intro ⟨rg_sm (by omega) (by omega), ⟨by decide, by decide⟩⟩ (And.intro (fun _ => And.intro rfl (hP l hl)) (fun h => absurd (show (6 : Int) ≤ i by omega) h))
  | succ n ih =>
    intro i l h0 hn hl
    refine rc_go [10] 20 ?_
    refine And.intro ⟨rg_sm (by omega) (by omega), ⟨by decide, by decide⟩⟩ (And.intro (fun h => absurd (show (6 : Int) ≤ i from h) (by omega)) (fun _ => ?_))
    refine And.intro ⟨h0, by show i < 78; omega⟩ ?_
    exact ih (i + 1) _ (by omega) (by omega) (alO_up hl)
theorem pk_l {l0 : tL} (hP : ∀ l, alO l0 l → P (.inl none) fi (cF nr fa frB) (cA ai) l) : ∀ (n k : Nat) (l : tL) (x4 : Option av), k + n = 192 → alO l0 l → Rc 1 (Call 1 scL scX d) (mt 21) P 244 scL scX 15 [some (.inr (.inl (some 49))), some (.inr (.inl (some 29))), some (.inl 0), some (.inl (k : Int)), x4] [] 244 fi (cF nr fa frB) (cA ai) l := by
  intro n
  induction n with
  | zero =>
    intro k l x4 hn hl
    have e : k = 192 := by omega
    subst e
    refine rc_go [] 10 ?_
    exact And.intro ⟨⟨by decide, by decide⟩, ⟨by decide, by decide⟩⟩ (And.intro (fun _ => And.intro rfl (hP l hl)) (fun h => absurd (by decide : (192 : Int) ≤ 192) h))
  | succ n ih =>
    intro k l x4 hn hl
    have hd : 0 ≤ (k : Int).tdiv 32 ∧ (k : Int).tdiv 32 < 6 := by
      rw [Int.tdiv_eq_ediv_of_nonneg (by omega)]
      omega
    refine rc_go [15] 50 ?_
    refine And.intro ⟨rg_sm (by omega) (by omega), ⟨by decide, by decide⟩⟩ (And.intro (fun h => absurd (show (192 : Int) ≤ (k : Int) from h) (by omega)) (fun _ => ?_))
    refine And.intro ⟨rg_sm (by omega) (by omega), ⟨by decide, by decide⟩, by decide⟩ ?_
    refine And.intro ⟨by show 0 ≤ 0 + (k : Int).tdiv 32; omega, by show 0 + (k : Int).tdiv 32 < 78; omega⟩ ?_
    refine And.intro ⟨by omega, by show (k : Int) < 192; omega⟩ ?_
    refine And.intro ⟨rg_sm (by omega) (by omega), ⟨by decide, by decide⟩, by decide⟩ ?_
    refine And.intro ⟨by show 0 ≤ 0 + (k : Int).tdiv 32; omega, by show 0 + (k : Int).tdiv 32 < 78; omega⟩ ?_
    exact ih (k + 1) _ _ (by omega) (alO_up hl)
theorem c_came0 (hP : ∀ l, alO al l → P (.inl (some (.inl 0))) fi (cF nr fa frB) (cA ai) l) : Call 1 scL scX (d + 4) 20 [.inr (.inl (some 49)), .inr (.inl (some 29)), .inl 0] 244 fi (cF nr fa frB) (cA ai) al 244 P := by
  refine ⟨⟨by decide, rfl⟩, rc_go [] 40 ?_⟩
  refine And.intro ⟨⟨by decide, by decide⟩, ⟨by decide, by decide⟩⟩ (And.intro (fun h => absurd (show (0 : Int) < 0 from h) (by decide)) (fun _ => ?_))
  refine And.intro ⟨⟨by decide, by decide⟩, ⟨by decide, by decide⟩⟩ (And.intro (fun _ => ?_) (fun h => absurd (show (0 : Int) ≤ 12 by decide) h))
  refine Exists.intro 244 (And.intro ⟨by decide, by decide⟩ ?_)
  refine ⟨⟨by decide, rfl⟩, rc_go [15] 20 ?_⟩
  refine Exists.intro 244 (And.intro ⟨by decide, by decide⟩ ?_)
  refine ⟨⟨by decide, rfl⟩, rc_go [10] 20 ?_⟩
  refine Exists.intro 244 (And.intro ⟨by decide, by decide⟩ ?_)
  refine ⟨⟨by decide, rfl⟩, rc_go [] 20 ?_⟩
  refine And.intro ⟨⟨by decide, by decide⟩, ⟨by decide, by decide⟩⟩ (And.intro (fun _ => ?_) (fun h => absurd (show (0 : Int) ≤ 0 + 6 by decide) h))
  refine And.intro ⟨⟨by decide, by decide⟩, ⟨by decide, by decide⟩⟩ (And.intro (fun _ => ?_) (fun h => absurd (show (0 : Int) ≤ 0 by decide) h))
  refine And.intro ⟨⟨by decide, by decide⟩, ⟨by decide, by decide⟩⟩ (And.intro (fun _ => ?_) (fun h => absurd (show (0 : Int) + 6 ≤ 78 by decide) h))
  refine And.intro rfl ?_
  refine fl6 (l0 := al) (fun l hl => ?_) 6 0 al (by decide) (by decide) (fun _ _ => rfl)
  refine pk_l (l0 := al) (fun l2 hl2 => ?_) 192 0 l none (by decide) hl
  refine And.intro ⟨⟨by decide, by decide⟩, ⟨by decide, by decide⟩⟩ (And.intro (fun _ => ?_) (fun h => absurd (show (0 : Int) ≤ 0 by decide) h))
  exact And.intro (Or.inl rfl) (And.intro rfl (hP l2 hl2))
/-- the plans behind a reply -/
def nxP (m : Int) (p : Nat → Int) (k : Nat) : Int := if m = 0 then (if k < 96 then cPk (kOne 0 40 p) k / 4 else p k) else (if k < 96 then p k else if k < 192 then cPk (kOne 1 40 p) (k - 96) % 4 else p k)
theorem nxP_b (hm : m = 0 ∨ m = 1) (hp : ∀ k, 0 ≤ p k ∧ p k ≤ 3) (k : Nat) : 0 ≤ nxP m p k ∧ nxP m p k ≤ 3 := by
  have b := hp k
  rcases hm with rfl | rfl
  · have h := kOne_pk (Or.inl rfl) hp k
    unfold nxP
    rw [if_pos rfl]
    split
    · rename_i hk
      have := h hk
      omega
    · exact b
  · have h := kOne_pk (Or.inr rfl) hp (k - 96)
    unfold nxP
    rw [if_neg (by decide)]
    split
    · exact b
    · split
      · rename_i h1 h2
        have := h (by omega)
        omega
      · exact b
theorem tk_ok (hm : m = 0 ∨ m = 1) (hb : cP p fi ai) {f' a' : tF} (ht : tkO m 40 p fi ai al f' a' al) : cP (nxP m p) f' a' := by
  obtain ⟨c1, c2, c3, c4⟩ := hb
  obtain ⟨t1, t2, t3, t4, t5, -⟩ := ht
  have e29 : ∀ k, k < 192 → ai 29 k = p k := by
    rcases c2.2 with ⟨e, -⟩ | ⟨-, e⟩
    · exact nomatch e
    · exact e
  refine ⟨fun o h0 h48 h233 => (t1 o h233).trans (c1 o h0 h48 h233), ⟨nxP_b hm c2.1, Or.inr ⟨rfl, fun k hk => ?_⟩⟩, t5, fun o h1 h2 => (t2 o h2 (by omega)).trans (c4 o h1 h2)⟩
  unfold nxP
  by_cases h : k < 96
  · rw [t3 k h]
    rcases hm with rfl | rfl
    · rw [if_pos rfl, if_pos rfl, if_pos h]
    · rw [if_neg (by decide), if_neg (by decide), if_pos h]
      exact e29 k hk
  · obtain ⟨j, rfl⟩ := Nat.exists_eq_add_of_le (Nat.le_of_not_lt h)
    rw [t4 j (by omega)]
    rcases hm with rfl | rfl
    · rw [if_pos rfl, if_pos rfl, if_neg h]
      exact e29 _ hk
    · rw [if_neg (by decide), if_neg (by decide), if_neg h, if_pos hk, Nat.add_sub_cancel_left]
end Play
