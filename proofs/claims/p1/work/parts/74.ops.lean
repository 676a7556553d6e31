/-! hand, share, marked -/
def hnd (a b : Int) : Int := if a ≤ b then (if b ≤ a then 2 else 1) else 0
section Hand
variable {scL : Nat} {scX : Nat → Int} {d N : Nat} {fi : tF} {fr : tR} {ai : tF} {al : tL} {P : ot} {V0 V1 : Int}
theorem c_mhand (hpl : ∀ k, 0 ≤ ai 81 k ∧ ai 81 k ≤ 3) (h0 : vOne 0 40 (fun _ => 0) = V0) (h1 : vOne 1 40 (fun _ => 0) = V1) (hP : ∀ fi' ai', P (.inl (some (.inl (hnd V0 V1)))) fi' (rF fr) (rA ai') al) :
    Call 1 scL scX (d + 8) 188 [.inr (.inl (some 54))] N fi (rF fr) (rA ai) al N P := by
  have b0 := vOne_b (m := 0) (mk := 40) (p := fun _ => 0) (Or.inl rfl) p0_b
  have b1 := vOne_b (m := 1) (mk := 40) (p := fun _ => 0) (Or.inr rfl) p0_b
  rw [h0] at b0
  rw [h1] at b1
  have r0 : rg V0 := rg_sm (by omega) (by omega)
  have r1 : rg V1 := rg_sm (by omega) (by omega)
  refine ⟨⟨Nat.le_refl _, rfl⟩, rc_go [] 40 ?_⟩
  refine Exists.intro N (And.intro ⟨Nat.le_refl _, Nat.le_refl _⟩ (c_aloneOf (m := 0) (Or.inl rfl) hpl h0 (fun fi1 ai1 hr => ?_)))
  have hpl1 : ∀ k, 0 ≤ ai1 81 k ∧ ai1 81 k ≤ 3 := by rw [hr.2.2 81 (Or.inl (by decide))]; exact hpl
  refine Exists.intro N (And.intro ⟨Nat.le_refl _, Nat.le_refl _⟩ (c_aloneOf (m := 1) (Or.inr rfl) hpl1 h1 (fun fi2 ai2 hr2 => ?_)))
  have hP := hP fi2 ai2
  unfold hnd at hP
  refine And.intro ⟨r0, r1⟩ (And.intro (fun hle => ?_) (fun hle => ?_))
  · have hle : V0 ≤ V1 := hle
    rw [if_pos hle] at hP
    refine And.intro ⟨r1, r0⟩ (And.intro (fun h2 => ?_) (fun h2 => ?_))
    · have h2 : V1 ≤ V0 := h2
      rw [if_pos h2] at hP
      exact And.intro rfl hP
    · have h2 : ¬ V1 ≤ V0 := h2
      rw [if_neg h2] at hP
      exact And.intro rfl hP
  · have hle : ¬ V0 ≤ V1 := hle
    rw [if_neg hle] at hP
    exact And.intro rfl hP
end Hand
theorem g_24 {scX : Nat → Int} (hop : b32 (fun p q => p &&& q) (scX 0) 63 = 24) : Good scX := by
  obtain ⟨V0, h0⟩ : ∃ V, vOne 0 40 (fun _ => 0) = V := ⟨_, rfl⟩
  obtain ⟨V1, h1⟩ : ∃ V, vOne 1 40 (fun _ => 0) = V := ⟨_, rfl⟩
  have b0 := vOne_b (m := 0) (mk := 40) (p := fun _ => 0) (Or.inl rfl) p0_b
  have b1 := vOne_b (m := 1) (mk := 40) (p := fun _ => 0) (Or.inr rfl) p0_b
  rw [h0] at b0
  rw [h1] at b1
  have r0 : rg V0 := rg_sm (by omega) (by omega)
  have r1 : rg V1 := rg_sm (by omega) (by omega)
  refine gb_24 hop ?_
  rw [← cA_h0]
  refine ⟨⟨by decide, rfl⟩, rc_go [] 40 ?_⟩
  refine Exists.intro 244 (And.intro ⟨by decide, by decide⟩ (c_mostAlone0 (d := 26) (m := 0) (Or.inl rfl) rfl rfl ⟨by decide, by decide⟩ h0 (fun nr fa fi1 ai1 al1 hn hr => ?_)))
  refine Exists.intro 244 (And.intro ⟨by decide, by decide⟩ (c_mostAlone2 (d := 26) (m := 1) (mk := 40) hn (Or.inr rfl) (hr.2.2.2.1 1 (by decide)) (congrFun (hr.1 3 (by decide)) 6) ⟨by decide, by decide⟩ h1 hr.2.2.2.2.1 (fun nr2 fa2 fi2 ai2 al2 hn2 hr2 => ?_)))
  have e58 : ai2 58 = h0A 58 := (hr2.2.1 58 (by decide) (by decide)).trans (hr.2.1 58 (by decide) (by decide))
  have e60 : ai2 60 = h0A 60 := (hr2.2.1 60 (by decide) (by decide)).trans (hr.2.1 60 (by decide) (by decide))
  have e81 : ai2 81 = h0A 81 := (hr2.2.1 81 (by decide) (by decide)).trans (hr.2.1 81 (by decide) (by decide))
  have key : ∀ V, hnd V0 V1 = V → Call 1 6 scX 31 188 [.inr (.inl (some 54))] 244 fi2 (cF nr2 fa2 frB) (cA ai2) al2 244 (fun o2 _ _ _ _ => o2 = .inl (some (.inl V))) := by
    intro V hV
    rw [← rF_c, ← rA_h0 e58 e60]
    refine c_mhand (d := 23) (r81_b e81) h0 h1 (fun fi' ai' => ?_)
    rw [hV]
  unfold hnd at key
  refine And.intro (fun hne => And.intro r0 (And.intro r1 ?_)) (fun he => ?_)
  · have hne : V0 ≠ V1 := hne
    refine And.intro ⟨r0, r1⟩ (And.intro (fun hle => ?_) (fun hle => ?_))
    · have hle : V0 ≤ V1 := hle
      exact And.intro rfl ⟨1, rfl, key 1 (by rw [if_pos hle, if_neg (by omega)])⟩
    · have hle : ¬ V0 ≤ V1 := hle
      exact And.intro rfl ⟨0, rfl, key 0 (by rw [if_neg hle])⟩
  · have he : V0 = V1 := he
    exact And.intro rfl ⟨2, rfl, key 2 (by rw [if_pos (by omega), if_pos (by omega)])⟩
section Share
variable {scL : Nat} {scX : Nat → Int} {d N : Nat} {fi : tF} {fr : tR} {ai : tF} {al : tL} {P : ot} {m mk VT Va Vb : Int} {nr fa : Nat}
/-- the rest of shareTwice, behind findTogether -/
theorem st_tail (hnf : nfo nr fa) (hm : m = 0 ∨ m = 1) (hT : fi 49 1 = VT) (h51 : ∀ k, k < 2 → ai 51 k = -1) (e36 : fi 3 6 = mk) (hmk : 0 ≤ mk ∧ mk ≤ 40) (ha : vOne m mk (fun _ => 0) = Va) (hb : vOne (1 - m) mk (fun _ => 0) = Vb) (hbd : bnd ai)
    (hP : ∀ nr fa fi' ai' al', nfo nr fa → (∀ o, o ≠ 233 → fi' o = fi o) → (∀ o, o < 234 → o ≠ 51 → ai' o = ai o) → (∀ o, o < 234 → al' o = al o) → P (.inl (some (.inl (Va + VT - Vb)))) fi' (cF nr fa frB) (cA ai') al') :
    Rc 1 (Call 1 scL scX (d + 4)) (mt 118) P 244 scL scX 4 [some (.inr (.inl (some 0))), some (.inl m)] [] 244 fi (cF nr fa frB) (cA ai) al := by
  refine rc_go [] 40 ?_
  refine Exists.intro 244 (And.intro ⟨by decide, by decide⟩ (c_mostAlone2 hnf hm (h51 _ (by omega)) e36 hmk ha hbd (fun nr1 fa1 fi1 ai1 al1 hn hr => ?_)))
  have hT1 : fi1 49 1 = VT := (congrFun (hr.1 49 (by decide)) 1).trans hT
  have e1 : fi1 3 6 = mk := (congrFun (hr.1 3 (by decide)) 6).trans e36
  have h2 : ai1 51 (1 - m).toNat = -1 := (hr.2.2.2.1 _ (by omega)).trans (h51 _ (by omega))
  refine Exists.intro 244 (And.intro ⟨by decide, by decide⟩ (c_mostAlone2 (m := 1 - m) hn (by omega) h2 e1 hmk hb hr.2.2.2.2.1 (fun nr2 fa2 fi2 ai2 al2 hn2 hr2 => ?_)))
  have h := hP nr2 fa2 fi2 ai2 al2 hn2 (fun o ho => (hr2.1 o ho).trans (hr.1 o ho)) (fun o ho h5 => (hr2.2.1 o ho h5).trans (hr.2.1 o ho h5)) (fun o ho => (hr2.2.2.2.2.2 o ho).trans (hr.2.2.2.2.2 o ho))
  rw [← hT1] at h
  exact And.intro rfl h
theorem c_mshareOf (hm : m = 0 ∨ m = 1) (hpl : ∀ k, 0 ≤ ai 81 k ∧ ai 81 k ≤ 3) (hT : ∀ pl, rV 1 1 40 (pB 3 pl) (nBw 3) 96 10 10 0 = VT) (ha : vOne m 40 (fun _ => 0) = Va) (hb : vOne (1 - m) 40 (fun _ => 0) = Vb)
    (hP : ∀ fi' ai', refO fi ai fi' ai' → P (.inl (some (.inl (Va + VT - Vb)))) fi' (rF fr) (rA ai') al) :
    Call 1 scL scX (d + 8) 186 [.inr (.inl (some 54)), .inl m] N fi (rF fr) (rA ai) al N P := by
  refine ⟨⟨Nat.le_refl _, rfl⟩, rc_go [] 40 ?_⟩
  refine Exists.intro N (And.intro ⟨Nat.le_refl _, Nat.le_refl _⟩ (c_aloneOf hm hpl ha (fun fi1 ai1 hr => ?_)))
  have hpl1 : ∀ k, 0 ≤ ai1 81 k ∧ ai1 81 k ≤ 3 := by rw [hr.2.2 81 (Or.inl (by decide))]; exact hpl
  refine Exists.intro N (And.intro ⟨Nat.le_refl _, Nat.le_refl _⟩ (c_togNow (pl := ai1 81) (hT _) hpl1 rfl (fun ai2 sb h1 h2 => ?_)))
  have hr2 : refO fi1 ai1 (up2 (up2 (up2 (up2 fi1 54 37 1) 54 38 1) 54 39 40) 54 40 sb) ai2 := ⟨up4_f.1, up4_f.2, fun o ho => h1 o (by omega) (by omega) (by omega)⟩
  have hpl2 : ∀ k, 0 ≤ ai2 81 k ∧ ai2 81 k ≤ 3 := by rw [h1 81 (by decide) (by decide) (by decide)]; exact hpl1
  refine Exists.intro N (And.intro ⟨Nat.le_refl _, Nat.le_refl _⟩ (c_aloneOf (m := 1 - m) (by omega) hpl2 hb (fun fi3 ai3 hr3 => ?_)))
  exact And.intro rfl (hP fi3 ai3 (refO_tr hr (refO_tr hr2 hr3)))
theorem c_mshare (hm : m = 0 ∨ m = 1) (hpl : ∀ k, 0 ≤ ai 81 k ∧ ai 81 k ≤ 3) (hT : ∀ pl, rV 1 1 40 (pB 3 pl) (nBw 3) 96 10 10 0 = VT) (ha : vOne m 40 (fun _ => 0) = Va) (hb : vOne (1 - m) 40 (fun _ => 0) = Vb)
    (hP : ∀ fi' ai', fi' 54 0 = 0 → P (.inl (some (.inl (Va + VT - Vb)))) fi' (rF fr) (rA ai') al) :
    Call 1 scL scX (d + 9) 187 [.inr (.inl (some 54)), .inl m] N fi (rF fr) (rA ai) al N P := by
  refine ⟨⟨Nat.le_refl _, rfl⟩, rc_go [] 40 ?_⟩
  refine Exists.intro N (And.intro ⟨Nat.le_refl _, Nat.le_refl _⟩ (c_isMill hm ?_))
  refine And.intro (fun _ => And.intro ⟨by decide, by decide⟩ (And.intro ⟨by decide, by decide⟩ ?_)) (fun h => absurd h (by decide))
  refine Exists.intro N (And.intro ⟨Nat.le_refl _, Nat.le_refl _⟩ (c_bad0 rfl ?_))
  refine And.intro (fun _ => ?_) (fun h => absurd rfl h)
  refine Exists.intro N (And.intro ⟨Nat.le_refl _, Nat.le_refl _⟩ (c_mshareOf hm hpl hT ha hb (fun fi' ai' hr => ?_)))
  exact And.intro rfl (hP fi' ai' (hr.2.1 0 (by decide)))
end Share
theorem g_23 {scX : Nat → Int} (hI : ∀ j, -2147483648 ≤ scX j ∧ scX j ≤ 2147483647) (hop : b32 (fun p q => p &&& q) (scX 0) 63 = 23) : Good scX := by
  by_cases c : 0 ≤ scX 1 ∧ scX 1 ≤ 1
  · have hm : scX 1 = 0 ∨ scX 1 = 1 := by omega
    obtain ⟨K, hK⟩ : ∃ K, cK 1 1 40 f0 f0 4 4 = K := ⟨_, rfl⟩
    obtain ⟨VT, hVT⟩ : ∃ V, cW 1 1 40 f0 f0 4 4 96 12 10 = V := ⟨_, rfl⟩
    obtain ⟨SU, hSU⟩ : ∃ V, cSU K 40 96 = V := ⟨_, rfl⟩
    obtain ⟨SL, hSL⟩ : ∃ V, cSL K 96 = V := ⟨_, rfl⟩
    obtain ⟨Va, ha⟩ : ∃ V, vOne (scX 1) 40 (fun _ => 0) = V := ⟨_, rfl⟩
    obtain ⟨Vb, hb⟩ : ∃ V, vOne (1 - scX 1) 40 (fun _ => 0) = V := ⟨_, rfl⟩
    have hR : ∀ pl, rV 1 1 40 (pB 3 pl) (nBw 3) 96 10 10 0 = VT := fun pl => val_3.symm.trans hVT
    refine ga_23 hop ?_
    rw [← cA_h0]
    refine ⟨⟨by decide, rfl⟩, rc_go [] 20 ?_⟩
    refine Exists.intro 233 (And.intro ⟨by decide, by decide⟩ (c_needMill (d := 28) hm ?_))
    refine Exists.intro 244 (And.intro ⟨by decide, by decide⟩ ?_)
    refine ⟨⟨by decide, rfl⟩, rc_go [4] 20 ?_⟩
    refine Exists.intro 244 (And.intro ⟨by decide, by decide⟩ (c_findTog (d := 24) rfl rfl ⟨by decide, by decide⟩ hK hVT hSU hSL (fun nr fa fi1 ai1 al1 hn hf => ?_)))
    obtain ⟨⟨-, q2, -, -, -⟩, q3, -, q5, q6, q7, -⟩ := hf
    refine st_tail (d := 24) (mk := 40) hn hm q2 (fun k _ => congrFun (q5 51 (by decide) (by decide)) k) (congrFun (q3 3 (by decide) (by decide)) 6) ⟨by decide, by decide⟩ ha hb ⟨q6, q7⟩ (fun nr2 fa2 fi2 ai2 al2 hn2 e1 e2 e3 => ?_)
    refine And.intro rfl ⟨_, rfl, ?_⟩
    have e58 : ai2 58 = h0A 58 := (e2 58 (by decide) (by decide)).trans (q5 58 (by decide) (by decide))
    have e60 : ai2 60 = h0A 60 := (e2 60 (by decide) (by decide)).trans (q5 60 (by decide) (by decide))
    have e81 : ai2 81 = h0A 81 := (e2 81 (by decide) (by decide)).trans (q5 81 (by decide) (by decide))
    rw [← rF_c, ← rA_h0 e58 e60]
    exact c_mshare (d := 22) hm (r81_b e81) hR ha hb (fun fi3 ai3 ht => ⟨rfl, ht, rfl⟩)
  · exact g_23_no hI hop c
section Marked
variable {scL : Nat} {scX : Nat → Int} {d N : Nat} {fi : tF} {fr : tR} {ai : tF} {al : tL} {P : ot} {m VT VM : Int}
theorem c_mmarked (hm : 0 ≤ m ∧ m ≤ 40) (hpl : ∀ k, 0 ≤ ai 81 k ∧ ai 81 k ≤ 3) (hT : ∀ pl, rV 1 1 40 (pB 3 pl) (nBw 3) 96 10 10 0 = VT) (hM : ∀ pl, rV 1 1 m (pB 3 pl) (nBw 3) 96 10 10 0 = VM)
    (hP : ∀ fi' ai', fi' 54 0 = 0 → P (.inl (some (.inl (VT - VM)))) fi' (rF fr) (rA ai') al) :
    Call 1 scL scX (d + 8) 206 [.inr (.inl (some 54)), .inl m] N fi (rF fr) (rA ai) al N P := by
  refine ⟨⟨Nat.le_refl _, rfl⟩, rc_go [] 60 ?_⟩
  refine Exists.intro N (And.intro ⟨Nat.le_refl _, Nat.le_refl _⟩ (c_in1 (rg_sm (by omega) (by omega)) ⟨by decide, by decide⟩ ⟨by decide, by decide⟩ ⟨by omega, by omega⟩ ?_))
  refine And.intro (fun _ => And.intro ⟨by decide, by decide⟩ (And.intro ⟨by decide, by decide⟩ ?_)) (fun h => absurd h (by decide))
  refine Exists.intro N (And.intro ⟨Nat.le_refl _, Nat.le_refl _⟩ (c_bad0 rfl ?_))
  refine And.intro (fun _ => ?_) (fun h => absurd rfl h)
  refine Exists.intro N (And.intro ⟨Nat.le_refl _, Nat.le_refl _⟩ (c_togNow (pl := ai 81) (hT _) hpl rfl (fun ai2 sb h1 h2 => ?_)))
  have hpl2 : ∀ k, 0 ≤ ai2 81 k ∧ ai2 81 k ≤ 3 := by rw [h1 81 (by decide) (by decide) (by decide)]; exact hpl
  refine Exists.intro N (And.intro ⟨Nat.le_refl _, Nat.le_refl _⟩ (c_laysN (d := d + 2) (a := 1) (b := 1) (mk := m) (V := VM) (pl := ai2 81) rfl rfl rfl (hM _) ⟨by decide, by decide⟩ ⟨by decide, by decide⟩ hm (Or.inl rfl) hpl2 rfl (fun ai3 sb3 h3 h4 => ?_)))
  exact And.intro rfl (hP _ _ rfl)
end Marked
theorem g_37 {scX : Nat → Int} (hI : ∀ j, -2147483648 ≤ scX j ∧ scX j ≤ 2147483647) (hop : b32 (fun p q => p &&& q) (scX 0) 63 = 37) : Good scX := by
  by_cases c : 0 ≤ scX 1 ∧ scX 1 ≤ 40
  · obtain ⟨K, hK⟩ : ∃ K, cK 1 1 40 f0 f0 4 4 = K := ⟨_, rfl⟩
    obtain ⟨VT, hVT⟩ : ∃ V, cW 1 1 40 f0 f0 4 4 96 12 10 = V := ⟨_, rfl⟩
    obtain ⟨VM, hVM⟩ : ∃ V, cW 1 1 (scX 1) f0 f0 4 4 96 12 10 = V := ⟨_, rfl⟩
    obtain ⟨SU, hSU⟩ : ∃ V, cSU K 40 96 = V := ⟨_, rfl⟩
    obtain ⟨SL, hSL⟩ : ∃ V, cSL K 96 = V := ⟨_, rfl⟩
    have hR : ∀ pl, rV 1 1 40 (pB 3 pl) (nBw 3) 96 10 10 0 = VT := fun pl => val_3.symm.trans hVT
    have hM : ∀ pl, rV 1 1 (scX 1) (pB 3 pl) (nBw 3) 96 10 10 0 = VM := fun pl => val_3.symm.trans hVM
    have rs : rg (scX 1) := rg_sm (by omega) (by omega)
    have h11 : (0 : Int) ≤ 1 ∧ (1 : Int) ≤ 9 := ⟨by decide, by decide⟩
    refine ga_37 hop ?_
    rw [← cA_h0]
    refine ⟨⟨by decide, rfl⟩, rc_go [] 60 ?_⟩
    refine Exists.intro 233 (And.intro ⟨by decide, by decide⟩ (c_needR (d := 28) rs ⟨by decide, by decide⟩ ⟨by decide, by decide⟩ c.1 c.2 ?_))
    refine Exists.intro 244 (And.intro ⟨by decide, by decide⟩ (c_findTog (d := 25) rfl rfl ⟨by decide, by decide⟩ hK hVT hSU hSL (fun nr fa fi1 ai1 al1 hn hf => ?_)))
    obtain ⟨⟨-, q2, -, -, -⟩, q3, -, q5, q6, q7, -⟩ := hf
    have e36 : fi1 3 6 = 40 := congrFun (q3 3 (by decide) (by decide)) 6
    have e58 : ai1 58 = h0A 58 := q5 58 (by decide) (by decide)
    have e60 : ai1 60 = h0A 60 := q5 60 (by decide) (by decide)
    have e81 : ai1 81 = h0A 81 := q5 81 (by decide) (by decide)
    refine And.intro (fun hne => And.intro rs (And.intro (show rg (fi1 3 6) by rw [e36]; exact ⟨by decide, by decide⟩) ?_)) (fun he => ?_)
    · refine Exists.intro 244 (And.intro ⟨by decide, by decide⟩ (c_ready2 ?_))
      refine Exists.intro 244 (And.intro ⟨by decide, by decide⟩ (c_freeBoth ?_))
      refine Exists.intro 244 (And.intro ⟨by decide, by decide⟩ (c_useMark ?_))
      refine Exists.intro 244 (And.intro ⟨by decide, by decide⟩ (c_weighBy ?_))
      refine Exists.intro 244 (And.intro ⟨by decide, by decide⟩ (c_mostWorthW (d := 26) (wU := 1) (wL := 1) (mk := scX 1) (V := VM) (fA := f0) (fB := f0) (nA := 4) (nB := 4) rfl rfl rfl hVM hn h11 h11 c opn_4 opn_4 rowF_both ?_ ?_ (fun nr2 fa2 ai2 al2 hn2 hm => ?_)))
      · intro k
        rw [fN_row (by decide), fN_row (by decide)]
        exact q6 k
      · intro k
        rw [fN_row (by decide), fN_row (by decide)]
        exact q7 k
      · obtain ⟨m1, -, -, -, -, -, -⟩ := hm
        have f58 : ai2 58 = h0A 58 := by rw [m1 58 (by decide) (by decide) (by decide) (by decide) (by decide) (by decide), fN_row (by decide), fN_row (by decide)]; exact e58
        have f60 : ai2 60 = h0A 60 := by rw [m1 60 (by decide) (by decide) (by decide) (by decide) (by decide) (by decide), fN_row (by decide), fN_row (by decide)]; exact e60
        have f81 : ai2 81 = h0A 81 := by rw [m1 81 (by decide) (by decide) (by decide) (by decide) (by decide) (by decide), fN_row (by decide), fN_row (by decide)]; exact e81
        refine And.intro rfl ⟨VT - VM, ?_, ?_⟩
        · rw [← q2]; rfl
        · rw [← rF_c, ← rA_h0 f58 f60]
          exact c_mmarked (d := 23) c (r81_b f81) hR hM (fun fi3 ai3 ht => ⟨rfl, ht, rfl⟩)
    · have he : scX 1 = fi1 3 6 := he
      have hz : VT - VM = 0 := by
        have : VM = VT := by rw [← hVM, ← hVT, he, e36]
        omega
      refine And.intro rfl ⟨0, rfl, ?_⟩
      rw [← rF_c, ← rA_h0 e58 e60]
      refine c_mmarked (d := 23) c (r81_b e81) hR hM (fun fi3 ai3 ht => ?_)
      rw [hz]
      exact ⟨rfl, ht, rfl⟩
  · exact g_37_no hI hop c
