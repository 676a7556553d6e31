/-! the reference's laysOne: the best of both openings in one state -/
theorem up2_up2 {α : Type} (f : Nat → Nat → α) (o k : Nat) (v v' : α) : up2 (up2 f o k v) o k v' = up2 f o k v' := by
  funext i j
  rw [up2_if, up2_if, up2_if]
  split <;> rfl
theorem up2_id {α : Type} (f : Nat → Nat → α) (o k : Nat) : up2 f o k (f o k) = f := by
  funext i j
  rw [up2_if]
  split
  · rename_i h
    rw [h.1, h.2]
  · rfl
/-- so many openings from b on: the best and which -/
def iB (F : Int → Int) (a : Int) : Nat → Int → Int → Int → Int × Int
  | 0, _, best, which => (best, which)
  | n + 1, b, best, which => if best < F b then iB F a n (b + 1) (F b) (4 * a + b) else iB F a n (b + 1) best which
def iA (F : Int → Int → Int) (fB : Int) (nB : Nat) : Nat → Int → Int → Int → Int × Int
  | 0, _, best, which => (best, which)
  | n + 1, a, best, which => iA F fB nB n (a + 1) (iB (F a) a nB fB best which).1 (iB (F a) a nB fB best which).2
theorem iB_b {F : Int → Int} {a : Int} {M : Int} : ∀ (n : Nat) (b best which : Int), (∀ j, b ≤ j → j < b + n → -1 ≤ F j ∧ F j ≤ M) → -1 ≤ best ∧ best ≤ M → -1 ≤ (iB F a n b best which).1 ∧ (iB F a n b best which).1 ≤ M
  | 0, _, _, _, _, h => h
  | n + 1, b, best, which, hF, h => by
    unfold iB
    split
    · exact iB_b n (b + 1) _ _ (fun j h1 h2 => hF j (by omega) (by omega)) (hF b (by omega) (by omega))
    · exact iB_b n (b + 1) _ _ (fun j h1 h2 => hF j (by omega) (by omega)) h
def Lo (q u l w fA tA fB tB best which s c : Int) (x13 x14 x15 : Option av) : List (Option av) := [some (.inr (.inl (some 54))), some (.inl q), some (.inl u), some (.inl l), some (.inl w), some (.inl fA), some (.inl tA), some (.inl fB), some (.inl tB), some (.inl best), some (.inl which), some (.inl s), some (.inl c), x13, x14, x15]
/-- what an opening of both is worth, with what lies ahead -/
def gF (wA wB mk : Int) (ah : Nat → Int) (u l w a b : Int) : Int := gV wA wB mk (gX u) (gY l w) (gM a (gX u)) (gM b (gY l w)) + ah (gS (gX u) (gY l w) (gM a (gX u)) (gM b (gY l w))).toNat
theorem rg_sm3 {x : Int} (h0 : -2000000000 ≤ x) (h1 : x ≤ 2000000000) : rg x := ⟨by omega, by omega⟩
theorem gS_b {x y m n : Int} (hx : 0 ≤ x ∧ x ≤ 20) (hy : 0 ≤ y ∧ y ≤ 20) (hm : 0 ≤ m ∧ m ≤ 3 ∧ m ≤ x) (hn : 0 ≤ n ∧ n ≤ 3 ∧ n ≤ y) : 0 ≤ gS x y m n ∧ gS x y m n < 10924 := by
  unfold gS
  omega
section Lays1
variable {scL : Nat} {scX : Nat → Int} {d N : Nat} {fi : tF} {fr : tR} {ai : tF} {al : tL} {P : ot}
variable {q u l w fA tA fB tB s c : Int}
theorem lo_in (h0 : 0 ≤ q) (h1 : q < 96) (hu : 0 ≤ u ∧ u ≤ 20) (hl : 0 ≤ l ∧ l ≤ 20) (hw : 0 ≤ w ∧ w ≤ 3) (hmk : 0 ≤ fi 54 39 ∧ fi 54 39 ≤ 40) {a : Int} (ha : 0 ≤ a ∧ a ≤ 3) (htB : tB ≤ 3)
    (hF : ∀ j, 0 ≤ j → j ≤ 3 → -1 ≤ gF (fi 54 37) (fi 54 38) (fi 54 39) (ai 127) u l w a j ∧ gF (fi 54 37) (fi 54 38) (fi 54 39) (ai 127) u l w a j ≤ 1000000) :
    ∀ (n : Nat) (b best which sb : Int) (x15 : Option av), 0 ≤ b → b + n = tB + 1 → -1 ≤ best ∧ best ≤ 1000000 →
    (∀ sb' x15', Rc 1 (Call 1 scL scX (d + 3)) (mt 165) P N scL scX 105 (Lo q u l w fA tA fB tB (iB (fun b => gF (fi 54 37) (fi 54 38) (fi 54 39) (ai 127) u l w a b) a n b best which).1 (iB (fun b => gF (fi 54 37) (fi 54 38) (fi 54 39) (ai 127) u l w a b) a n b best which).2 s c (some (.inl a)) (some (.inl (tB + 1))) x15') [] N (up2 fi 54 40 sb') (rF fr) (rA ai) al) →
    Rc 1 (Call 1 scL scX (d + 3)) (mt 165) P N scL scX 40 (Lo q u l w fA tA fB tB best which s c (some (.inl a)) (some (.inl b)) x15) [] N (up2 fi 54 40 sb) (rF fr) (rA ai) al := by
  intro n
  induction n with
  | zero =>
    intro b best which sb x15 hb hn hbest hk
    have e : b = tB + 1 := by omega
    subst e
    refine rc_go [105] 10 ?_
    exact And.intro ⟨rg_sm (by omega) (by omega), rg_sm (by omega) (by omega)⟩ (And.intro (fun _ => hk sb x15) (fun h => absurd (by omega) h))
  | succ n ih =>
    intro b best which sb x15 hb hn hbest hk
    have hb3 : b ≤ 3 := by omega
    have bx := gX_b hu
    have by' := gY_b hl hw
    have bm := gM_b ha bx
    have bn := gM_b (a := b) ⟨hb, hb3⟩ by'
    have bs := gS_b bx by' bm bn
    have hFb := hF b hb hb3
    refine rc_go [40, 105] 40 ?_
    refine And.intro ⟨rg_sm (by omega) (by omega), rg_sm (by omega) (by omega)⟩ (And.intro (fun h => absurd h (by omega)) (fun _ => ?_))
    refine Exists.intro N (And.intro ⟨Nat.le_refl _, Nat.le_refl _⟩ (c_grinds h0 h1 hu hl hw ha ⟨hb, hb3⟩ (mk := fi 54 39) hmk (wA := fi 54 37) (wB := fi 54 38) rfl rfl rfl ?_))
    rw [up2_up2]
    refine And.intro ⟨bs.1, by have := bs.2; show gS (gX u) (gY l w) (gM a (gX u)) (gM b (gY l w)) < 21853; omega⟩ ?_
    refine And.intro ⟨rg_sm (x := gF (fi 54 37) (fi 54 38) (fi 54 39) (ai 127) u l w a b) (by omega) (by omega), rg_sm (x := best) (by omega) (by omega)⟩ (And.intro (fun h => ?_) (fun h => ?_))
    · have h : best < gF (fi 54 37) (fi 54 38) (fi 54 39) (ai 127) u l w a b := h
      unfold iB at hk
      rw [if_pos h] at hk
      exact ih (b + 1) (gF (fi 54 37) (fi 54 38) (fi 54 39) (ai 127) u l w a b) (4 * a + b) (gS (gX u) (gY l w) (gM a (gX u)) (gM b (gY l w))) (some (.inl (gF (fi 54 37) (fi 54 38) (fi 54 39) (ai 127) u l w a b))) (by omega) (by omega) hFb hk
    · have h : ¬ best < gF (fi 54 37) (fi 54 38) (fi 54 39) (ai 127) u l w a b := h
      unfold iB at hk
      rw [if_neg h] at hk
      exact ih (b + 1) best which (gS (gX u) (gY l w) (gM a (gX u)) (gM b (gY l w))) (some (.inl (gF (fi 54 37) (fi 54 38) (fi 54 39) (ai 127) u l w a b))) (by omega) (by omega) hbest hk
theorem iA_b {F : Int → Int → Int} {M fB : Int} {nB : Nat} (hF : ∀ a j, fB ≤ j → j < fB + nB → -1 ≤ F a j ∧ F a j ≤ M) : ∀ (n : Nat) (a best which : Int), -1 ≤ best ∧ best ≤ M → -1 ≤ (iA F fB nB n a best which).1 ∧ (iA F fB nB n a best which).1 ≤ M
  | 0, _, _, _, h => h
  | n + 1, a, best, which, h => iA_b hF n (a + 1) _ _ (iB_b nB fB best which (hF a) h)
theorem lo_out (h0 : 0 ≤ q) (h1 : q < 96) (hu : 0 ≤ u ∧ u ≤ 20) (hl : 0 ≤ l ∧ l ≤ 20) (hw : 0 ≤ w ∧ w ≤ 3) (hmk : 0 ≤ fi 54 39 ∧ fi 54 39 ≤ 40) (htA : tA ≤ 3) (htB : tB ≤ 3) (hfB : 0 ≤ fB) {nB : Nat} (hnB : fB + nB = tB + 1)
    (hF : ∀ a j, 0 ≤ a → a ≤ 3 → 0 ≤ j → j ≤ 3 → -1 ≤ gF (fi 54 37) (fi 54 38) (fi 54 39) (ai 127) u l w a j ∧ gF (fi 54 37) (fi 54 38) (fi 54 39) (ai 127) u l w a j ≤ 1000000) :
    ∀ (n : Nat) (a best which sb : Int) (x14 x15 : Option av), 0 ≤ a → a + n = tA + 1 → -1 ≤ best ∧ best ≤ 1000000 →
    (∀ sb' x13' x14' x15', Rc 1 (Call 1 scL scX (d + 3)) (mt 165) P N scL scX 111 (Lo q u l w fA tA fB tB (iA (gF (fi 54 37) (fi 54 38) (fi 54 39) (ai 127) u l w) fB nB n a best which).1 (iA (gF (fi 54 37) (fi 54 38) (fi 54 39) (ai 127) u l w) fB nB n a best which).2 s c x13' x14' x15') [] N (up2 fi 54 40 sb') (rF fr) (rA ai) al) →
    Rc 1 (Call 1 scL scX (d + 3)) (mt 165) P N scL scX 29 (Lo q u l w fA tA fB tB best which s c (some (.inl a)) x14 x15) [] N (up2 fi 54 40 sb) (rF fr) (rA ai) al := by
  intro n
  induction n with
  | zero =>
    intro a best which sb x14 x15 ha hn hbest hk
    refine rc_go [111] 10 ?_
    exact And.intro ⟨rg_sm (by omega) (by omega), rg_sm (by omega) (by omega)⟩ (And.intro (fun _ => hk sb (some (.inl a)) x14 x15) (fun h => absurd (by omega) h))
  | succ n ih =>
    intro a best which sb x14 x15 ha hn hbest hk
    have ha3 : a ≤ 3 := by omega
    refine rc_go [40, 111] 40 ?_
    refine And.intro ⟨rg_sm (by omega) (by omega), rg_sm (by omega) (by omega)⟩ (And.intro (fun h => absurd h (by omega)) (fun _ => ?_))
    refine lo_in (q := q) (s := s) (c := c) (fA := fA) (tA := tA) h0 h1 hu hl hw hmk (a := a) ⟨ha, ha3⟩ htB (fun j j0 j3 => hF a j ha ha3 j0 j3) nB fB best which sb x15 hfB hnB hbest (fun sb' x15' => ?_)
    refine rc_go [29] 10 ?_
    exact ih (a + 1) _ _ sb' (some (.inl (tB + 1))) x15' (by omega) (by omega) (iB_b nB fB best which (fun j j0 j3 => hF a j ha ha3 (by omega) (by omega)) hbest) hk
def chB (old c which : Int) : Int := b32 (fun p q => p ||| q) (b32 (fun p q => p &&& q) old (b32 (fun p q => p ^^^ q) (b32 (fun p q => p <<< (q &&& 31)) 15 (4 * c.tmod 8)) (-1))) (b32 (fun p q => p <<< (q &&& 31)) which (4 * c.tmod 8))
theorem td8 {c : Int} (h0 : 0 ≤ c) (h1 : c < 2097888) : inb (c.tdiv 8) 262236 := by
  rw [Int.tdiv_eq_ediv_of_nonneg h0]
  exact ⟨by omega, by show c / 8 < 262236; omega⟩
set_option maxRecDepth 4096 in
theorem c_laysOne (h0 : 0 ≤ q) (h1 : q < 96) (hu : 0 ≤ u ∧ u ≤ 20) (hl : 0 ≤ l ∧ l ≤ 20) (hw : 0 ≤ w ∧ w ≤ 3) (hmk : 0 ≤ fi 54 39 ∧ fi 54 39 ≤ 40) (hfA : 0 ≤ fA) (htA : tA ≤ 3) (htB : tB ≤ 3) (hfB : 0 ≤ fB) {nA nB : Nat} (hnA : fA + nA = tA + 1) (hnB : fB + nB = tB + 1)
    (hF : ∀ a j, 0 ≤ a → a ≤ 3 → 0 ≤ j → j ≤ 3 → -1 ≤ gF (fi 54 37) (fi 54 38) (fi 54 39) (ai 127) u l w a j ∧ gF (fi 54 37) (fi 54 38) (fi 54 39) (ai 127) u l w a j ≤ 1000000)
    (hP : ∀ sb, P (.inl none) (up2 fi 54 40 sb) (rF fr) (rA (up2 (up2 ai 126 ((u * 41 + l) * 13 + w).toNat (iA (gF (fi 54 37) (fi 54 38) (fi 54 39) (ai 127) u l w) fB nB nA fA (-1) 0).1) 128 ((q * 21853 + ((u * 41 + l) * 13 + w)).tdiv 8).toNat (chB (ai 128 ((q * 21853 + ((u * 41 + l) * 13 + w)).tdiv 8).toNat) (q * 21853 + ((u * 41 + l) * 13 + w)) (iA (gF (fi 54 37) (fi 54 38) (fi 54 39) (ai 127) u l w) fB nB nA fA (-1) 0).2))) al) :
    Call 1 scL scX (d + 4) 165 [.inr (.inl (some 54)), .inl q, .inl u, .inl l, .inl w, .inl fA, .inl tA, .inl fB, .inl tB] N fi (rF fr) (rA ai) al N P := by
  refine ⟨⟨Nat.le_refl _, rfl⟩, rc_go [29] 40 ?_⟩
  refine Exists.intro N (And.intro ⟨Nat.le_refl _, Nat.le_refl _⟩ (c_state ?_))
  have key : Rc 1 (Call 1 scL scX (d + 3)) (mt 165) P N scL scX 29 (Lo q u l w fA tA fB tB (-1) 0 ((u * 41 + l) * 13 + w) (q * 21853 + ((u * 41 + l) * 13 + w)) (some (.inl fA)) none none) [] N (up2 fi 54 40 (fi 54 40)) (rF fr) (rA ai) al := by
    refine lo_out h0 h1 hu hl hw hmk htA htB hfB hnB hF nA fA (-1) 0 (fi 54 40) none none hfA hnA ⟨by omega, by omega⟩ (fun sb' x13' x14' x15' => ?_)
    refine rc_go [] 60 ?_
    refine And.intro ⟨by omega, by show (u * 41 + l) * 13 + w < 21853; omega⟩ ?_
    refine And.intro ⟨rg_sm3 (by omega) (by omega), ⟨by decide, by decide⟩, by decide⟩ ?_
    refine And.intro ⟨rg_sm3 (by omega) (by omega), ⟨by decide, by decide⟩, by decide⟩ ?_
    refine And.intro (td8 (by omega) (by omega)) ?_
    refine And.intro ⟨rg_sm3 (by omega) (by omega), ⟨by decide, by decide⟩, by decide⟩ ?_
    refine And.intro ⟨rg_sm3 (by omega) (by omega), ⟨by decide, by decide⟩, by decide⟩ ?_
    refine And.intro (td8 (by omega) (by omega)) ?_
    refine And.intro rfl ?_
    have := hP sb'
    rw [← rA_up (by decide) (by decide), ← rA_up (by decide) (by decide)] at this
    exact this
  rw [up2_id] at key
  exact key
end Lays1
