/-! play: the class's run, and the law -/
theorem cP_0 : cP zz h0I h0A := ⟨fun _ _ _ _ => rfl, plO_h rfl, ⟨fun _ => ⟨Int.le_refl 0, (by decide : (0 : Int) ≤ 5184)⟩, fun _ => ⟨Int.le_refl 0, (by decide : (0 : Int) ≤ 5184)⟩⟩, fun _ _ _ => rfl⟩
theorem cP_f {p : Nat → Int} {fi ai : tF} {k : Nat} {v : Int} (h : cP p fi ai) : cP p (up2 fi 0 k v) ai := ⟨fun o h0 h1 h2 => by rw [up2_row h0]; exact h.1 o h0 h1 h2, h.2.1, h.2.2.1, h.2.2.2⟩
section CPlay
variable {scL : Nat} {scX : Nat → Int} {d : Nat} {P : ot}
theorem c_play (hP : ∀ nr fa p fi' ai' al', nfo nr fa → cP p fi' ai' → P (.inl (some (.inl 1))) fi' (cF nr fa frB) (cA ai') al') : Call 1 scL scX (d + 7) 84 [.inr (.inl (some 0))] 233 h0I frB (cA h0A) h0L 244 P := by
  have z3 : ∀ k, 0 ≤ zz k ∧ zz k ≤ 3 := p0_b
  have b1 := nxP_b (p := zz) (m := 0) (Or.inl rfl) z3
  have b2 := nxP_b (p := nxP 0 zz) (m := 1) (Or.inr rfl) b1
  obtain ⟨hA1, hB1⟩ := ab_p b1
  obtain ⟨Va, hVa⟩ : ∃ V, vOne 0 40 zz = V := ⟨_, rfl⟩
  obtain ⟨Vb, hVb⟩ : ∃ V, vOne 1 40 zz = V := ⟨_, rfl⟩
  obtain ⟨Gb, hGb⟩ : ∃ V, sM 1 (oU zz) (oL zz) = V := ⟨_, rfl⟩
  obtain ⟨Va1, hVa1⟩ : ∃ V, vOne 1 40 (nxP 0 zz) = V := ⟨_, rfl⟩
  obtain ⟨Va2, hVa2⟩ : ∃ V, vOne 0 40 (nxP 1 (nxP 0 zz)) = V := ⟨_, rfl⟩
  have pos0 := vOne_pos (m := 0) (p := zz) (Or.inl rfl) z3
  have pos1 := vOne_pos (m := 1) (p := nxP 0 zz) (Or.inr rfl) b1
  rw [hVa] at pos0
  rw [hVa1] at pos1
  have g0 : sM 0 (oU zz) (oL zz) = 0 := by
    unfold sM
    rw [if_pos rfl]
    exact sA_0 s0_ok (fun _ _ => rfl) (ab_p z3).2 96 (Nat.le_refl _)
  have g1 : sM 1 (oU (nxP 0 zz)) (oL (nxP 0 zz)) = 0 := by
    unfold sM
    rw [if_neg (by decide)]
    exact sB_0 s0_ok hA1 (fun q _ => by show nxP 0 zz (96 + q) = 0; unfold nxP; rw [if_pos rfl, if_neg (by omega)]; rfl) 96 (Nat.le_refl _)
  have eq0 : Va2 = sM 0 (oU (nxP 1 (nxP 0 zz))) (oL (nxP 1 (nxP 0 zz))) := by
    rw [← hVa2, vOne_up b2 z3, vOne_day (Or.inl rfl) z3]
    unfold sM
    rw [if_pos rfl, if_pos rfl]
    rw [sA_up (B' := oL (nxP 1 (nxP 0 zz)))]
    refine (sA_cg (fun q hq => ?_) (fun _ _ => rfl) 96 (Nat.le_refl _)).1
    show cPk (kOne 0 40 zz) q / 4 = nxP 1 (nxP 0 zz) q
    unfold nxP
    rw [if_neg (by decide), if_pos hq, if_pos rfl, if_pos hq]
  -- turn 2
  have t2 : ∀ nr fa f a l x2, nfo nr fa → cP (nxP 1 (nxP 0 zz)) f a → Rc 1 (Call 1 scL scX (d + 6)) (mt 84) P 244 scL scX 7 [some (.inr (.inl (some 0))), some (.inl 2), some (.inl x2)] [] 244 f (cF nr fa frB) (cA a) l := by
    intro nr fa f a l x2 hn hc
    refine rc_go [] 40 ?_
    refine And.intro ⟨⟨by decide, by decide⟩, ⟨by decide, by decide⟩⟩ (And.intro (fun h => absurd (show (24 : Int) ≤ 2 from h) (by decide)) (fun _ => ?_))
    refine And.intro ⟨⟨by decide, by decide⟩, ⟨by decide, by decide⟩, by decide⟩ ?_
    refine Exists.intro 244 (And.intro ⟨by decide, by decide⟩ (c_rests1 (t := 2) (m := 0) (Or.inr rfl) hn rfl hc hVa2 eq0.symm (fun nr fa f1 a1 l1 hn1 k1 _ => ?_)))
    rw [if_pos (Int.le_refl _)]
    refine And.intro (fun h => absurd h (by decide)) (fun _ => And.intro ⟨by decide, by decide⟩ (And.intro ⟨by decide, by decide⟩ ?_))
    exact And.intro rfl (hP nr fa _ f1 a1 l1 hn1 k1)
  -- turn 1
  have t1 : ∀ nr fa f a l x2, nfo nr fa → cP (nxP 0 zz) f a → Rc 1 (Call 1 scL scX (d + 6)) (mt 84) P 244 scL scX 7 [some (.inr (.inl (some 0))), some (.inl 1), some (.inl x2)] [] 244 f (cF nr fa frB) (cA a) l := by
    intro nr fa f a l x2 hn hc
    refine rc_go [7] 40 ?_
    refine And.intro ⟨⟨by decide, by decide⟩, ⟨by decide, by decide⟩⟩ (And.intro (fun h => absurd (show (24 : Int) ≤ 1 from h) (by decide)) (fun _ => ?_))
    refine And.intro ⟨⟨by decide, by decide⟩, ⟨by decide, by decide⟩, by decide⟩ ?_
    refine Exists.intro 244 (And.intro ⟨by decide, by decide⟩ (c_rests1 (t := 1) (m := 1) (Or.inl rfl) hn rfl hc hVa1 g1 (fun nr fa f1 a1 l1 hn1 k1 k2 => ?_)))
    rw [if_neg (by omega)]
    refine And.intro (fun _ => ?_) (fun h => absurd rfl h)
    refine And.intro (fun _ => And.intro ⟨by decide, by decide⟩ (And.intro ⟨by decide, by decide⟩ ?_)) (fun h => absurd (show (1 : Int) = 0 from h) (by decide))
    refine Exists.intro 244 (And.intro ⟨by decide, by decide⟩ (c_takeReply (d := d + 3) (m := 1) (mk := 40) (p := nxP 0 zz) (Or.inr rfl) ⟨by decide, by decide⟩ k2 (fun f2 a2 ht => ?_)))
    exact t2 nr fa _ a2 l1 _ hn1 (cP_f (tk_ok (Or.inr rfl) k1 ht))
  refine ⟨⟨by decide, rfl⟩, rc_go [7] 10 ?_⟩
  refine rc_go [7] 60 ?_
  refine And.intro ⟨⟨by decide, by decide⟩, ⟨by decide, by decide⟩⟩ (And.intro (fun h => absurd (show (24 : Int) ≤ 0 from h) (by decide)) (fun _ => ?_))
  refine And.intro ⟨⟨by decide, by decide⟩, ⟨by decide, by decide⟩, by decide⟩ ?_
  refine Exists.intro 244 (And.intro ⟨by decide, by decide⟩ (c_rests0 (cP_f cP_0) hVb hGb hVa g0 (by omega) (fun nr fa f1 a1 l1 hn1 k1 k2 => ?_)))
  refine And.intro (fun _ => ?_) (fun h => absurd rfl h)
  refine And.intro (fun h => absurd (show (0 : Int) = 0 from rfl) h) (fun _ => ?_)
  refine And.intro ⟨⟨by decide, by decide⟩, ⟨by decide, by decide⟩, by decide⟩ ?_
  refine Exists.intro 244 (And.intro ⟨by decide, by decide⟩ (c_came0 (d := d + 2) (fun l2 hl2 => ?_)))
  refine And.intro (fun _ => ?_) (fun h => absurd rfl h)
  have k3 : rpO 0 40 zz f1 a1 l2 f1 a1 l2 := by
    obtain ⟨r1, r2, r3, r4, r5, r6, r7, r8, r9, r10⟩ := k2
    exact ⟨fun _ _ => rfl, r2, r3, fun _ _ => rfl, r5, r6, r7, fun _ _ => rfl, r9, fun q hq => by rw [hl2 236 (by decide)]; exact r10 q hq⟩
  refine Exists.intro 244 (And.intro ⟨by decide, by decide⟩ (c_takeReply (d := d + 3) (m := 0) (mk := 40) (p := zz) (Or.inl rfl) ⟨by decide, by decide⟩ k3 (fun f2 a2 ht => ?_)))
  exact t1 nr fa _ a2 l2 _ hn1 (cP_f (tk_ok (Or.inl rfl) k1 ht))
end CPlay
theorem g_20 {scX : Nat → Int} (hop : b32 (fun p q => p &&& q) (scX 0) 63 = 20) : Good scX := by
  refine gb_20 hop ?_
  rw [← cA_h0]
  refine c_play (d := 24) (fun nr fa p fi' ai' al' hn hc => ⟨1, rfl, ?_⟩)
  obtain ⟨c1, -, -, c4⟩ := hc
  rw [← rF_c, ← rA_h0 (c4 58 (by decide) (by decide)) (c4 60 (by decide) (by decide))]
  refine c_mplay (d := 23) (fun k => congrFun (c4 80 (by decide) (by decide)) k) ?_ (congrFun (c1 54 (by decide) (by decide) (by decide)) 36) (fun _ _ => rfl)
  funext k
  exact congrFun (c4 81 (by decide) (by decide)) k
