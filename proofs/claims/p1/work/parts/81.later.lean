/-! later: day behind day -/
def sd (A B : Nat → Int) : Nat → Int × Int × Int
  | 0 => s0
  | k + 1 => dU (sd A B k) A B 96
theorem sd_ok {A B : Nat → Int} (hA : ab3 A) (hB : ab3 B) : ∀ k, okW3 (sd A B k)
  | 0 => s0_ok
  | k + 1 => dU_b (sd_ok hA hB k) hA hB 96 (by decide)
/-- what a mill grinds on day k -/
def dG (m : Int) (A B : Nat → Int) (k : Nat) : Int := if m = 0 then sA (sd A B k) A B 96 else sB (sd A B k) A B 96
theorem sA_b {s : Int × Int × Int} {A B : Nat → Int} (hs : okW3 s) (hA : ab3 A) (hB : ab3 B) : ∀ n, n ≤ 96 → (0 ≤ sA s A B n ∧ sA s A B n ≤ 3 * n) ∧ (0 ≤ sB s A B n ∧ sB s A B n ≤ 3 * n)
  | 0, _ => ⟨⟨Int.le_refl 0, Int.le_refl 0⟩, ⟨Int.le_refl 0, Int.le_refl 0⟩⟩
  | n + 1, h => by
    have ih := sA_b hs hA hB n (by omega)
    have bs := dU_b hs hA hB n (by omega)
    unfold okW3 at bs
    have bm := gM_b (hA n (by omega)) (gX_b bs.1)
    have bn := gM_b (hB n (by omega)) (gY_b bs.2.1 bs.2.2)
    have d1 : 0 ≤ dA s A B n ∧ dA s A B n ≤ 3 := by
      unfold dA
      split <;> omega
    have d2 : 0 ≤ dB s A B n ∧ dB s A B n ≤ 3 := by
      unfold dB
      split <;> omega
    show (0 ≤ sA s A B n + dA s A B n ∧ sA s A B n + dA s A B n ≤ 3 * ((n : Int) + 1)) ∧ (0 ≤ sB s A B n + dB s A B n ∧ sB s A B n + dB s A B n ≤ 3 * ((n : Int) + 1))
    omega
theorem dG_b {m : Int} {A B : Nat → Int} (hA : ab3 A) (hB : ab3 B) (k : Nat) : 0 ≤ dG m A B k ∧ dG m A B k ≤ 288 := by
  have h := sA_b (sd_ok hA hB k) hA hB 96 (by decide)
  unfold dG
  split
  · exact h.1
  · exact h.2
/-- the day ahead's ground, and the first day alike -/
def alk (G : Nat → Int) : Nat → Int × Int
  | 0 => (-1, -1)
  | k + 1 => (G k, if (alk G k).2 = -1 ∧ G k = (alk G k).1 then (k : Int) else (alk G k).2)
theorem alk_b {G : Nat → Int} (hG : ∀ k, 0 ≤ G k ∧ G k ≤ 288) : ∀ k, (-1 ≤ (alk G k).1 ∧ (alk G k).1 ≤ 288) ∧ (-1 ≤ (alk G k).2 ∧ (alk G k).2 ≤ k)
  | 0 => by
    show (-1 ≤ (-1 : Int) ∧ (-1 : Int) ≤ 288) ∧ (-1 ≤ (-1 : Int) ∧ (-1 : Int) ≤ (0 : Nat))
    decide
  | k + 1 => by
    have ih := alk_b hG k
    have h := hG k
    show (-1 ≤ G k ∧ G k ≤ 288) ∧ (-1 ≤ (if (alk G k).2 = -1 ∧ G k = (alk G k).1 then (k : Int) else (alk G k).2) ∧ (if (alk G k).2 = -1 ∧ G k = (alk G k).1 then (k : Int) else (alk G k).2) ≤ ((k + 1 : Nat) : Int))
    refine ⟨by omega, ?_⟩
    split <;> omega
def lat (m w : Int) (A B : Nat → Int) (n : Nat) : Int := if w = 0 then smN (dG m A B) n else if w = 1 then (if m = 0 then (sd A B n).1 else (sd A B n).2.1) else (alk (dG m A B) n).2
section Later
variable {scL : Nat} {scX : Nat → Int} {d N : Nat} {fi : tF} {fr : tR} {ai : tF} {al : tL} {P : ot} {A B : Nat → Int} {m n w : Int}
def Lt1 (m n w all ahead alike number : Int) (x8 : Option av) : List (Option av) := [some (.inr (.inl (some 0))), some (.inl m), some (.inl n), some (.inl w), some (.inl all), some (.inl ahead), some (.inl alike), some (.inl number), x8]
/-- one round's tests, in the class -/
theorem lt_t {all ahead alike g : Int} {k : Nat} {f a : tF} (hg : 0 ≤ g ∧ g ≤ 288) (ha : -1 ≤ ahead ∧ ahead ≤ 288) (hl : -1 ≤ alike ∧ alike ≤ 30)
    (hk : Rc 1 (Call 1 scL scX d) (mt 99) P N scL scX 58 (Lt1 m n w (all + g) g (if alike = -1 ∧ g = ahead then (k : Int) else alike) ((k : Int) + 1) (some (.inl g))) [] N f fr a al) :
    Rc 1 (Call 1 scL scX d) (mt 99) P N scL scX 92 (Lt1 m n w all ahead alike k (some (.inl g))) [] N f fr a al := by
  refine rc_go [58] 40 ?_
  refine And.intro (fun hne => And.intro (rg_sm (by omega) (by omega)) (And.intro ⟨by decide, by decide⟩ ?_)) (fun he => ?_)
  · have hne : alike ≠ -1 := hne
    rw [if_neg (fun z => hne z.1)] at hk
    exact hk
  · have he : alike = -1 := he
    refine And.intro (fun hne => And.intro (rg_sm (by omega) (by omega)) (And.intro (rg_sm (by omega) (by omega)) ?_)) (fun he2 => ?_)
    · have hne : g ≠ ahead := hne
      rw [if_neg (fun z => hne z.2)] at hk
      exact hk
    · have he2 : g = ahead := he2
      rw [if_pos ⟨he, he2⟩] at hk
      exact hk
theorem lt_l {a0 f0 : tF} {nn : Nat} (hm : m = 0 ∨ m = 1) (hn30 : nn ≤ 30) (hA : ab3 A) (hB : ab3 B) (hoA : ∀ q, q < 96 → a0 42 q = A q) (hoB : ∀ q, q < 96 → a0 42 (96 + q) = B q) (hmk : f0 3 6 = 40)
    (hk : ∀ f a x8, cD (sd A B nn) f → (∀ o, o ≠ 48 → f o = f0 o) → (∀ o, o < 43 ∨ 47 < o → a o = a0 o) → Rc 1 (Call 1 scL scX (d + 2)) (mt 99) P N scL scX 126 (Lt1 m nn w (smN (dG m A B) nn) (alk (dG m A B) nn).1 (alk (dG m A B) nn).2 nn x8) [] N f (dF fr) (cA a) al) :
    ∀ (j k : Nat) (f a : tF) (x8 : Option av), k + j = nn → cD (sd A B k) f → (∀ o, o ≠ 48 → f o = f0 o) → (∀ o, o < 43 ∨ 47 < o → a o = a0 o) → Rc 1 (Call 1 scL scX (d + 2)) (mt 99) P N scL scX 58 (Lt1 m nn w (smN (dG m A B) k) (alk (dG m A B) k).1 (alk (dG m A B) k).2 k x8) [] N f (dF fr) (cA a) al := by
  intro j
  induction j with
  | zero =>
    intro k f a x8 hn hD hf ha
    have e : k = nn := by omega
    subst e
    refine rc_go [126] 10 ?_
    exact And.intro ⟨rg_sm (by omega) (by omega), rg_sm (by omega) (by omega)⟩ (And.intro (fun _ => hk f a x8 hD hf ha) (fun h => absurd (Int.le_refl (k : Int)) h))
  | succ j ih =>
    intro k f a x8 hn hD hf ha
    have hG := dG_b (m := m) hA hB
    have bl := alk_b hG k
    refine rc_go [92] 40 ?_
    refine And.intro ⟨rg_sm (by omega) (by omega), rg_sm (by omega) (by omega)⟩ (And.intro (fun h => absurd (show (nn : Int) ≤ (k : Int) from h) (by omega)) (fun _ => ?_))
    refine Exists.intro N (And.intro ⟨Nat.le_refl _, Nat.le_refl _⟩ (c_passAll (s := sd A B k) (A := A) (B := B) (sd_ok hA hB k) hA hB (fun q hq => by rw [ha 42 (Or.inl (by decide))]; exact hoA q hq) (fun q hq => by rw [ha 42 (Or.inl (by decide))]; exact hoB q hq) ((congrFun (hf 3 (by decide)) 6).trans hmk) hD (fun f1 a1 hD1 hf1 ha1 => ?_)))
    refine Exists.intro N (And.intro ⟨Nat.le_refl _, Nat.le_refl _⟩ (c_sumG (V := dG m A B k) hm ha1 rfl ?_))
    refine lt_t (hG k) bl.1 (by omega) ?_
    exact ih (k + 1) f1 a1 _ (by omega) hD1 (fun o ho => (hf1 o ho).trans (hf o ho)) (fun o ho => (ha1.1 o ho).trans (ha o ho))
/-- the reference's days -/
def Lt2 (m n w had last first dd : Int) (x8 : Option av) : List (Option av) := [some (.inr (.inl (some 54))), some (.inl m), some (.inl n), some (.inl w), some (.inl had), some (.inl last), some (.inl first), some (.inl dd), x8]
theorem rt_t {had had' ahead alike g : Int} {k : Nat} {f a : tF} (hm : m = 0 ∨ m = 1) (hg : 0 ≤ g ∧ g ≤ 288) (ha : -1 ≤ ahead ∧ ahead ≤ 288) (hl : -1 ≤ alike ∧ alike ≤ 30) (hh : a (114 + m.toNat) 0 = had')
    (hk : Rc 1 (Call 1 scL scX d) (mt 204) P N scL scX 77 (Lt2 m n w had' g (if alike = -1 ∧ g = ahead then (k : Int) else alike) ((k : Int) + 1) (some (.inl g))) [] N f (rF fr) (rA a) al) :
    Rc 1 (Call 1 scL scX d) (mt 204) P N scL scX 102 (Lt2 m n w had ahead alike k (some (.inl g))) [] N f (rF fr) (rA a) al := by
  subst hh
  have fin : ∀ v, (if alike = -1 ∧ g = ahead then (k : Int) else alike) = v → Rc 1 (Call 1 scL scX d) (mt 204) P N scL scX 122 (Lt2 m n w had ahead alike k (some (.inl g))) [.inl v] N f (rF fr) (rA a) al := by
    intro v hv
    rw [hv] at hk
    rcases hm with rfl | rfl
    · refine rc_go [77] 40 ?_
      refine And.intro ⟨by decide, by decide⟩ (And.intro ⟨by decide, by decide⟩ ?_)
      exact hk
    · refine rc_go [77] 40 ?_
      refine And.intro ⟨by decide, by decide⟩ (And.intro ⟨by decide, by decide⟩ ?_)
      exact hk
  refine rc_go [122] 40 ?_
  refine And.intro (fun hne => And.intro (rg_sm (by omega) (by omega)) (And.intro ⟨by decide, by decide⟩ ?_)) (fun he => ?_)
  · have hne : alike ≠ -1 := hne
    exact fin _ (by rw [if_neg (fun z => hne z.1)])
  · have he : alike = -1 := he
    refine And.intro (fun hne => And.intro (rg_sm (by omega) (by omega)) (And.intro (rg_sm (by omega) (by omega)) ?_)) (fun he2 => ?_)
    · have hne : g ≠ ahead := hne
      exact fin _ (by rw [if_neg (fun z => hne z.2)])
    · have he2 : g = ahead := he2
      exact fin _ (by rw [if_pos ⟨he, he2⟩])
theorem rt_l {a0 f0 : tF} {nn : Nat} (hm : m = 0 ∨ m = 1) (hn30 : nn ≤ 30) (hA : ab3 A) (hB : ab3 B) (hoA : ∀ q, q < 96 → a0 80 q = A q) (hoB : ∀ q, q < 96 → a0 81 q = B q) (h36 : f0 54 36 = -1)
    (hk : ∀ f a x8, rD (sd A B nn) (smN (dG 0 A B) nn) (smN (dG 1 A B) nn) f a → dfr f0 a0 f a → Rc 1 (Call 1 scL scX (d + 4)) (mt 204) P N scL scX 144 (Lt2 m nn w (smN (dG m A B) nn) (alk (dG m A B) nn).1 (alk (dG m A B) nn).2 nn x8) [] N f (rF fr) (rA a) al) :
    ∀ (j k : Nat) (f a : tF) (x8 : Option av), k + j = nn → rD (sd A B k) (smN (dG 0 A B) k) (smN (dG 1 A B) k) f a → dfr f0 a0 f a → Rc 1 (Call 1 scL scX (d + 4)) (mt 204) P N scL scX 77 (Lt2 m nn w (smN (dG m A B) k) (alk (dG m A B) k).1 (alk (dG m A B) k).2 k x8) [] N f (rF fr) (rA a) al := by
  intro j
  induction j with
  | zero =>
    intro k f a x8 hn hD hf
    have e : k = nn := by omega
    subst e
    refine rc_go [144] 10 ?_
    exact And.intro ⟨rg_sm (by omega) (by omega), rg_sm (by omega) (by omega)⟩ (And.intro (fun _ => hk f a x8 hD hf) (fun h => absurd (Int.le_refl (k : Int)) h))
  | succ j ih =>
    intro k f a x8 hn hD hf
    have hG := dG_b (m := m) hA hB
    have bl := alk_b hG k
    have a80 : ∀ q, q < 96 → bt 0 (-1) 0 (a 80) q = A q := fun q hq => by rw [bt_no (by decide), hf.1 80 (Or.inl (by decide))]; exact hoA q hq
    have a81 : ∀ q, q < 96 → bt 1 (-1) 0 (a 81) q = B q := fun q hq => by rw [bt_no (by decide), hf.1 81 (Or.inl (by decide))]; exact hoB q hq
    refine rc_go [102] 40 ?_
    refine And.intro ⟨rg_sm (by omega) (by omega), rg_sm (by omega) (by omega)⟩ (And.intro (fun h => absurd (show (nn : Int) ≤ (k : Int) from h) (by omega)) (fun _ => ?_))
    refine Exists.intro N (And.intro ⟨Nat.le_refl _, Nat.le_refl _⟩ (c_dayGoes (s := sd A B k) (A := A) (B := B) (sd_ok hA hB k) hA hB ⟨by decide, by decide⟩ ⟨by decide, by decide⟩ a80 a81 ((hf.2.2 36 (by decide) (by decide)).trans h36) hD (fun f1 a1 hD1 hf1 => ?_)))
    have hD2 : rD (sd A B (k + 1)) (smN (dG 0 A B) (k + 1)) (smN (dG 1 A B) (k + 1)) f1 a1 := hD1
    obtain ⟨-, -, -, e4, e5⟩ := hD2
    have eg : a1 (114 + m.toNat) 0 = smN (dG m A B) k + dG m A B k := by
      rcases hm with rfl | rfl
      · exact e4
      · exact e5
    have key : Rc 1 (Call 1 scL scX (d + 4)) (mt 204) P N scL scX 102 (Lt2 m nn w (smN (dG m A B) k) (alk (dG m A B) k).1 (alk (dG m A B) k).2 k (some (.inl (a1 (114 + m.toNat) 0 - smN (dG m A B) k)))) [] N f1 (rF fr) (rA a1) al := by
      rw [eg, show smN (dG m A B) k + dG m A B k - smN (dG m A B) k = dG m A B k by omega]
      refine rt_t hm (hG k) bl.1 (by omega) eg ?_
      exact ih (k + 1) f1 a1 _ (by omega) hD1 (dfr_tr hf hf1)
    rcases hm with rfl | rfl
    · refine And.intro ⟨by decide, by decide⟩ (And.intro ⟨by decide, by decide⟩ ?_)
      exact key
    · refine And.intro ⟨by decide, by decide⟩ (And.intro ⟨by decide, by decide⟩ ?_)
      exact key
theorem c_mlater (hm : m = 0 ∨ m = 1) {nn : Nat} (hn1 : 1 ≤ nn) (hn30 : nn ≤ 30) (hw : 0 ≤ w ∧ w ≤ 2) (hA : ab3 A) (hB : ab3 B) (hoA : ∀ q, q < 96 → ai 80 q = A q) (hoB : ∀ q, q < 96 → ai 81 q = B q) (h36 : fi 54 36 = -1)
    (hP : ∀ fi' ai', fi' 54 0 = 0 → P (.inl (some (.inl (lat m w A B nn)))) fi' (rF fr) (rA ai') al) :
    Call 1 scL scX (d + 5) 204 [.inr (.inl (some 54)), .inl m, .inl (nn : Int), .inl w] N fi (rF fr) (rA ai) al N P := by
  refine ⟨⟨Nat.le_refl _, rfl⟩, rc_go [77] 80 ?_⟩
  refine Exists.intro N (And.intro ⟨Nat.le_refl _, Nat.le_refl _⟩ (c_isMill hm ?_))
  refine And.intro (fun _ => And.intro ⟨by decide, by decide⟩ (And.intro ⟨by decide, by decide⟩ ?_)) (fun h => absurd h (by decide))
  refine Exists.intro N (And.intro ⟨Nat.le_refl _, Nat.le_refl _⟩ (c_bad0 rfl ?_))
  refine And.intro (fun h => absurd rfl h) (fun _ => ?_)
  refine Exists.intro N (And.intro ⟨Nat.le_refl _, Nat.le_refl _⟩ (c_in1 (rg_sm (by omega) (by omega)) ⟨by decide, by decide⟩ ⟨by decide, by decide⟩ ⟨by omega, by omega⟩ ?_))
  refine And.intro (fun h => absurd h (by decide)) (fun _ => And.intro ⟨by decide, by decide⟩ (And.intro ⟨by decide, by decide⟩ ?_))
  refine Exists.intro N (And.intro ⟨Nat.le_refl _, Nat.le_refl _⟩ (c_in1 (rg_sm (by omega) (by omega)) ⟨by decide, by decide⟩ ⟨by decide, by decide⟩ ⟨by omega, by omega⟩ ?_))
  refine And.intro (fun _ => And.intro ⟨by decide, by decide⟩ (And.intro ⟨by decide, by decide⟩ ?_)) (fun h => absurd h (by decide))
  refine Exists.intro N (And.intro ⟨Nat.le_refl _, Nat.le_refl _⟩ (c_bad0 rfl ?_))
  refine And.intro (fun _ => ?_) (fun h => absurd rfl h)
  refine Exists.intro N (And.intro ⟨Nat.le_refl _, Nat.le_refl _⟩ (c_begins (fun f2 a2 hD2 hf2 => ?_)))
  refine rt_l (A := A) (B := B) (a0 := a2) (f0 := f2) hm hn30 hA hB (fun q hq => by rw [hf2.1 80 (Or.inl (by decide))]; exact hoA q hq) (fun q hq => by rw [hf2.1 81 (Or.inl (by decide))]; exact hoB q hq) ((hf2.2.2 36 (by decide) (by decide)).trans h36) (fun f a x8 hD hf => ?_) nn 0 f2 a2 none (by omega) hD2 (dfr_0 _ _)
  have k := hP f a ((hf.2.2 0 (by decide) (by decide)).trans (hf2.2.2 0 (by decide) (by decide)))
  unfold lat at k
  obtain ⟨e1, e2, -, -, -⟩ := hD
  refine rc_go [] 30 ?_
  refine And.intro (fun hne => And.intro (rg_sm (by omega) (by omega)) (And.intro ⟨by decide, by decide⟩ ?_)) (fun he => ?_)
  · have hne : w ≠ 0 := hne
    rw [if_neg hne] at k
    refine And.intro (fun hne2 => And.intro (rg_sm (by omega) (by omega)) (And.intro ⟨by decide, by decide⟩ ?_)) (fun he2 => ?_)
    · have hne2 : w ≠ 1 := hne2
      rw [if_neg hne2] at k
      exact And.intro rfl k
    · have he2 : w = 1 := he2
      rw [if_pos he2] at k
      rcases hm with rfl | rfl
      · rw [if_pos rfl, ← e1] at k
        refine And.intro ⟨by decide, by decide⟩ ?_
        exact And.intro rfl k
      · rw [if_neg (by decide), ← e2] at k
        refine And.intro ⟨by decide, by decide⟩ ?_
        exact And.intro rfl k
  · have he : w = 0 := he
    rw [if_pos he] at k
    exact And.intro rfl k
end Later
theorem g_35 {scX : Nat → Int} (hI : ∀ j, -2147483648 ≤ scX j ∧ scX j ≤ 2147483647) (hop : b32 (fun p q => p &&& q) (scX 0) 63 = 35) : Good scX := by
  by_cases c : (0 ≤ scX 1 ∧ scX 1 ≤ 1) ∧ (1 ≤ scX 2 ∧ scX 2 ≤ 30) ∧ (0 ≤ scX 3 ∧ scX 3 ≤ 2)
  · obtain ⟨cm, cn, cw⟩ := c
    have hm : scX 1 = 0 ∨ scX 1 = 1 := by omega
    obtain ⟨nn, hnn⟩ := Int.eq_ofNat_of_zero_le (by omega : 0 ≤ scX 2)
    have hnn : scX 2 = (nn : Int) := hnn
    refine ga_35 hop ?_
    rw [← cA_h0, ← dF_frB, hnn]
    refine ⟨⟨by decide, rfl⟩, rc_go [58] 60 ?_⟩
    refine Exists.intro 233 (And.intro ⟨by decide, by decide⟩ (c_needMill (d := 28) hm ?_))
    refine Exists.intro 233 (And.intro ⟨by decide, by decide⟩ (c_needR (d := 28) (rg_sm (by omega) (by omega)) ⟨by decide, by decide⟩ ⟨by decide, by decide⟩ (by omega) (by omega) ?_))
    refine Exists.intro 233 (And.intro ⟨by decide, by decide⟩ (c_needR (d := 28) (rg_sm (by omega) (by omega)) ⟨by decide, by decide⟩ ⟨by decide, by decide⟩ (by omega) (by omega) ?_))
    refine Exists.intro 233 (And.intro ⟨by decide, by decide⟩ (c_openAs (d := 27) (fun k _ => show (0 : Int) ≤ 0 ∧ (0 : Int) ≤ 3 from ⟨by decide, by decide⟩) ?_))
    refine Exists.intro 233 (And.intro ⟨by decide, by decide⟩ (c_start (d := 27) ?_))
    have o42 : ∀ k, k < 192 → cpQ h0A 42 29 192 42 k = 0 := fun k hk => by
      unfold cpQ
      rw [if_pos ⟨rfl, hk⟩]
      rfl
    refine lt_l (d := 27) (A := zz) (B := zz) (nn := nn) (f0 := up2 (up2 (up2 h0I 48 0 10) 48 1 10) 48 2 0) (a0 := cpQ h0A 42 29 192) hm (by omega) ab_z ab_z (fun q hq => o42 q (by omega)) (fun q hq => o42 (96 + q) (by omega)) rfl (fun f a x8 hD hf ha => ?_) nn 0 _ _ none (by omega) ⟨rfl, rfl, rfl⟩ (fun _ _ => rfl) (fun _ _ => rfl)
    have e : ∀ o, 50 < o → o < 234 → a o = h0A o := fun o h1 h2 => by rw [ha o (Or.inr (by omega)), cpQ_row (by omega)]
    have h36 : f 54 36 = -1 := by
      rw [hf 54 (by decide), up2_row (by decide), up2_row (by decide), up2_row (by decide)]
      rfl
    have eF : rF (dF frB) = dF frB := by rw [dF_frB]; exact rF_id (fun _ => rfl)
    have key : ∀ v, lat (scX 1) (scX 3) zz zz nn = v → Call 1 6 scX 31 204 [.inr (.inl (some 54)), .inl (scX 1), .inl (nn : Int), .inl (scX 3)] 233 f (dF frB) (cA a) (up2 h0L 232 0 (Int32.ofInt v).toInt64) 233 (fun o2 fi2 _ _ al2 => o2 = .inl (some (.inl v)) ∧ fi2 54 0 = 0 ∧ al2 = up2 h0L 232 0 (Int32.ofInt v).toInt64) := by
      intro v hv
      rw [← eF, ← rA_h0 (e 58 (by decide) (by decide)) (e 60 (by decide) (by decide))]
      refine c_mlater (d := 26) hm (by omega) (by omega) cw ab_z ab_z (fun q _ => congrFun (e 80 (by decide) (by decide)) q) (fun q _ => congrFun (e 81 (by decide) (by decide)) q) h36 (fun fi2 ai2 ht => ?_)
      rw [hv]
      exact ⟨rfl, ht, rfl⟩
    unfold lat at key
    refine rc_go [] 30 ?_
    refine And.intro (rg_sm (by omega) (by omega)) (And.intro (fun e => ?_) (fun ne => And.intro (fun e => ?_) (fun ne2 => ?_)))
    · have e : scX 3 = 0 := e
      exact And.intro rfl ⟨_, rfl, key _ (by rw [if_pos e])⟩
    · have ne : scX 3 ≠ 0 := ne
      have e : scX 3 = 1 := e
      rw [if_neg ne, if_pos e] at key
      refine And.intro (fun hne => And.intro (rg_sm (by omega) (by omega)) (And.intro ⟨by decide, by decide⟩ ?_)) (fun he => ?_)
      · have hne : scX 1 ≠ 0 := hne
        exact And.intro rfl ⟨f 48 1, rfl, key _ (by rw [if_neg hne]; exact hD.2.1.symm)⟩
      · have he : scX 1 = 0 := he
        exact And.intro rfl ⟨f 48 0, rfl, key _ (by rw [if_pos he]; exact hD.1.symm)⟩
    · have ne : scX 3 ≠ 0 := ne
      have ne2 : scX 3 ≠ 1 := ne2
      exact And.intro rfl ⟨_, rfl, key _ (by rw [if_neg ne, if_neg ne2])⟩
  · exact g_35_no hI hop c
