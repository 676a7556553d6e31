/-! the class's mostWorth: all quarters -/
def nfo (nr fa : Nat) : Prop := (nr = 234 ∧ fa = 235) ∨ (nr = 235 ∧ fa = 234)
def nn (a b : Int) : Nat := (b + 1 - a).toNat
section Cls6
variable {scL : Nat} {scX : Nat → Int} {d : Nat} {fi : tF} {fr : tR} {P : ot}
variable {r7 r8 r9 s0 s1 s2 : Nat → Int} {J : Int → Nat → Nat → tF → tL → Prop} {I : Int → Nat → Nat → tF → tL → Int → Int → Prop}
theorem mw_q (hw : fi 233 13 = 21) (hmk : 0 ≤ fi 233 10 ∧ fi 233 10 ≤ 40)
    (hR : ∀ q : Int, 0 ≤ q → q < 96 → (0 ≤ r7 q.toNat ∧ r7 q.toNat ≤ r8 q.toNat + 1 ∧ r8 q.toNat ≤ 3) ∧ (0 ≤ r7 (96 + q).toNat ∧ r7 (96 + q).toNat ≤ r8 (96 + q).toNat + 1 ∧ r8 (96 + q).toNat ≤ 3) ∧ (0 ≤ r9 q.toNat ∧ r9 q.toNat ≤ s0 q.toNat + 1 ∧ s0 q.toNat ≤ 20) ∧ (0 ≤ s1 q.toNat ∧ s1 q.toNat ≤ s2 q.toNat + 1 ∧ s2 q.toNat ≤ 20))
    (hIr : ∀ q nr fa ai al u l, I q nr fa ai al u l → ai 237 = r7 ∧ ai 238 = r8 ∧ ai 239 = r9 ∧ ai 240 = s0 ∧ ai 241 = s1 ∧ ai 242 = s2)
    (hJI : ∀ q nr fa ai al, 0 ≤ q → q < 96 → nfo nr fa → J q nr fa ai al → I q nr fa ai al (r9 q.toNat) (s1 q.toNat))
    (hG : ∀ q nr fa ai al up lo, 0 ≤ q → q < 96 → r9 q.toNat ≤ up → up ≤ s0 q.toNat → s1 q.toNat ≤ lo → lo ≤ s2 q.toNat → I q nr fa ai al up lo → ∀ x y, 0 ≤ x → x ≤ 3 → x ≤ up → 0 ≤ y → y ≤ lo → -1 ≤ gH (uWk (fi 233 11) (fi 233 10) up lo) (lWk (fi 233 12) lo) (cmB q) (ai fa) up lo x y ∧ gH (uWk (fi 233 11) (fi 233 10) up lo) (lWk (fi 233 12) lo) (cmB q) (ai fa) up lo x y ≤ 1000000)
    (hI : ∀ q nr fa ai al up lo, 0 ≤ q → q < 96 → nfo nr fa → r9 q.toNat ≤ up → up ≤ s0 q.toNat → s1 q.toNat ≤ lo → lo ≤ s2 q.toNat → I q nr fa ai al up lo → I q nr fa (onA (fi 233 11) (fi 233 12) (fi 233 10) (r7 (96 + q).toNat) (r7 q.toNat) (nn (r7 (96 + q).toNat) (r8 (96 + q).toNat)) (nn (r7 q.toNat) (r8 q.toNat)) nr fa q up lo ai) (onL (fi 233 11) (fi 233 12) (fi 233 10) (r7 (96 + q).toNat) (r7 q.toNat) (nn (r7 (96 + q).toNat) (r8 (96 + q).toNat)) (nn (r7 q.toNat) (r8 q.toNat)) fa q up lo ai al) up (lo + 1))
    (hI2 : ∀ q nr fa ai al up, 0 ≤ q → q < 96 → r9 q.toNat ≤ up → up ≤ s0 q.toNat → I q nr fa ai al up (s2 q.toNat + 1) → I q nr fa ai al (up + 1) (s1 q.toNat))
    (hIJ : ∀ q nr fa ai al, 0 ≤ q → q < 96 → nfo nr fa → I q nr fa ai al (s0 q.toNat + 1) (s1 q.toNat) → J (q - 1) fa nr ai al) :
    ∀ (n : Nat) (q : Int) (nr fa : Nat) (ai : tF) (al : tL) (x2 x3 : Option av), q + 1 = n → q < 96 → nfo nr fa → J q nr fa ai al →
    (∀ nr' fa' ai' al' x2' x3', nfo nr' fa' → J (-1) nr' fa' ai' al' → Rc 1 (Call 1 scL scX (d + 2)) (mt 41) P 244 scL scX 82 (La (-1) x2' x3') [] 244 fi (cF nr' fa' fr) (cA ai') al') →
    Rc 1 (Call 1 scL scX (d + 2)) (mt 41) P 244 scL scX 15 (La q x2 x3) [] 244 fi (cF nr fa fr) (cA ai) al := by
  intro n
  induction n with
  | zero =>
    intro q nr fa ai al x2 x3 hn hq hnf hj hk
    have e : q = -1 := by omega
    subst e
    refine rc_go [82] 10 ?_
    exact And.intro ⟨⟨by decide, by decide⟩, ⟨by decide, by decide⟩⟩ (And.intro (fun _ => hk nr fa ai al _ _ hnf hj) (fun h => absurd (by decide : (-1 : Int) < 0) h))
  | succ n ih =>
    intro q nr fa ai al x2 x3 hn hq hnf hj hk
    have h0 : 0 ≤ q := by omega
    obtain ⟨⟨a1, a2, a3⟩, ⟨b1, b2, b3⟩, ⟨c1, c2, c3⟩, ⟨d1, d2, d3⟩⟩ := hR q h0 hq
    have hi := hJI q nr fa ai al h0 hq hnf hj
    obtain ⟨-, -, e9, -, -, -⟩ := hIr _ _ _ _ _ _ _ hi
    have n1 : r7 q.toNat + (nn (r7 q.toNat) (r8 q.toNat) : Int) = r8 q.toNat + 1 := by unfold nn; omega
    have n2 : r7 (96 + q).toNat + (nn (r7 (96 + q).toNat) (r8 (96 + q).toNat) : Int) = r8 (96 + q).toNat + 1 := by unfold nn; omega
    refine rc_go [26] 20 ?_
    refine And.intro ⟨rg_sm (by omega) (by omega), ⟨by decide, by decide⟩⟩ (And.intro (fun h => absurd h (by omega)) (fun _ => ?_))
    refine And.intro ⟨h0, by show q < 96; omega⟩ ?_
    have := mw_u (d := d) (scL := scL) (scX := scX) (P := P) (fr := fr) (I := I q nr fa) (uL := r9 q.toNat) (uM := s0 q.toNat) (lL := s1 q.toNat) (lM := s2 q.toNat) ⟨h0, hq⟩ hnf hw hmk a1 b1 b3 n1 n2 a3 d1 d3 d2 c1 c3
      (fun ai al u l hi => by obtain ⟨f1, f2, -, -, -, f6⟩ := hIr _ _ _ _ _ _ _ hi; rw [f1, f2, f6]; exact ⟨rfl, rfl, rfl, rfl, rfl⟩)
      (fun ai al u l hi => by obtain ⟨-, -, -, f4, f5, -⟩ := hIr _ _ _ _ _ _ _ hi; rw [f4, f5]; exact ⟨rfl, rfl⟩)
      (fun ai al up lo => hG q nr fa ai al up lo h0 hq) (fun ai al up lo => hI q nr fa ai al up lo h0 hq hnf) (fun ai al up => hI2 q nr fa ai al up h0 hq) (s0 q.toNat + 1 - r9 q.toNat).toNat (r9 q.toNat) ai al x3 (Int.le_refl _) (by omega) hi (fun ai' al' x2' x3' hi' => by
        refine rc_go [15] 20 ?_
        refine Exists.intro 244 (And.intro ⟨Nat.le_refl _, Nat.le_refl _⟩ (c_swap ?_))
        exact ih (q - 1) fa nr ai' al' x2' x3' (by omega) (by omega) (by unfold nfo at hnf ⊢; omega) (hIJ q nr fa ai' al' h0 hq hnf hi') hk)
    rw [← e9] at this
    exact this
end Cls6
