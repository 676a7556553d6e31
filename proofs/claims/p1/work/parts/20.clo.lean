def ns3 (e : en) : Bool := match e with
  | (.invokestatic _, _, a, _, _, _, _) => !(Nat.beq a 1003)
  | _ => true
theorem inv_mono2 {md Nf : Nat} {K : ct} {ex ex' : xt} {nx : kt} (hK : cMono K) (he : ∀ pc x N fi fr ai al, ex pc x N fi fr ai al → ex' pc x N fi fr ai al) {y n rc pc np : Nat} {L : List (Option av)} {S : List av} {N : Nat} {fi : tF} {fr : tR} {ai : tF} {al : tL} (h : inv md K ex Nf nx y n rc pc np L S N fi fr ai al) : inv md K ex' Nf nx y n rc pc np L S N fi fr ai al := inv_mono hK he (fun _ _ _ _ _ _ _ _ => id) h
theorem dE {p : Prop} [Decidable p] {b : Bool} (h : (decide p && b) = true) : p ∧ b = true := by
  rw [Bool.and_eq_true, decide_eq_true_eq] at h
  exact h
theorem bq {a b : Nat} (h : Nat.beq a b = true) : a = b := Nat.eq_of_beq_eq_true h
set_option maxHeartbeats 8000000 in
set_option maxRecDepth 20000 in
theorem clo_gen {md : Nat} {G : gG} {sz0 sb scL : Nat} {scX : Nat → Int} {N0 Nf nL rf rl : Nat} {p : Program} {l : Launch} {e : Env} {R : Room} {s : State} {m : MethodId} {args : Array Value} {below : List Frame} {meth : Method} {c : Code} {Q : State → Prop} {K : ct} {M : mr} {P : ot} {own : String} {ini : Bool} {cc : ByteArray} {X : kt}
    (hX : X = XW (OO md G sz0 sb scL scX s N0 Nf) (fun N => N - N0) (fun N => ssum md N - ssum md N0) nL p l e R s m args below meth c Q)
    (hKm : cMono K) (hKS : KS md scL scX K l rf rl) (hx : p.tables.exec = Jvm.exec) (hb : c.code = cc) (hml : c.maxLocals = nL) (hown : s.vm.findClass own = some m.cls) (hini : ini = true → meth.name = "<init>") (hts : ∀ w ∈ gw, w.before args s = true) (hT : TKx G s)
    (hR : rf + 1 ≤ R.frames ∧ 60 + rl ≤ R.locals) (hRl : 40 ≤ rl) (hRc : Nf - N0 ≤ R.cells) (hRs : ssum md Nf - ssum md N0 ≤ R.slots) (hNf : Nf < 999999) (hsc : scL < 2147483648)
    (hC : ∀ pc, pc < M.2.1 → okE own ini nL cc pc (M.1 pc) = true) (hMa : ∀ a, a < nM → okM a = true) (hN3 : ∀ pc, pc < M.2.1 → ns3 (M.1 pc) = true)
    (hex : ∀ pc x N fi fr ai al, exH M.2.2.2.2 M.2.2.1 P Nf X pc x N fi fr ai al → XV md G sz0 sb scL scX N0 Nf nL p l e R s m args below meth c Q pc x N fi fr ai al)
    (hrI : ∀ pc L z N fi fr ai al, pc < M.2.1 → (M.1 pc).1 = .ireturn → decode cc pc = .ok (.ireturn, 1) → (M.2.2.2.1 = true → z = 0 ∨ z = 1) → N = Nf → P (.inl (some (.inl z))) fi fr ai al → X pc L [.inl z] N fi fr ai al)
    (hrV : ∀ pc L N fi fr ai al, pc < M.2.1 → (M.1 pc).1 = .return_ → decode cc pc = .ok (.return_, 1) → N = Nf → P (.inl none) fi fr ai al → X pc L [] N fi fr ai al)
    (hrA : ∀ pc L r N fi fr ai al, pc < M.2.1 → (M.1 pc).1 = .areturn → decode cc pc = .ok (.areturn, 1) → N = Nf → P (.inl (some (.inr (.inl r)))) fi fr ai al → X pc L [.inr (.inl r)] N fi fr ai al)
    (hrT : ∀ pc idx L S N fi fr ai al x, x < 3 → own = "RivalMills" → Cond.classLink "RivalMills" idx (xN x) ∈ gw → decode cc pc = .ok (.new idx, 3) → decode cc (pc + 3) = .ok (.dup, 1) → decode cc (pc + 4) = .ok (.invokespecial (icN x), 3) → decode cc (pc + 7) = .ok (.athrow, 1) → wsum S ≤ 60 → (shp md N).1 = 9 → N + 1 = Nf → P (.inr x) fi fr ai al → X pc L S N fi fr ai al) :
    Clo md K M P Nf scL scX X := by
  have hO1 : ∀ α N fi fr ai al H locs, OO md G sz0 sb scL scX s N0 Nf α N fi fr ai al H locs → (N - N0 ≤ R.cells ∧ ssum md N - ssum md N0 ≤ R.slots) := fun α N fi fr ai al H locs h => by
    have h1 := h.2.2.1
    have h2 := ssum_mono md h1
    exact ⟨by omega, by omega⟩
  refine ⟨fun pc L S N fi fr ai al h => ?_, fun pc L S N fi fr ai al fi' fr' ai' al' he h => ?_⟩
  case refine_2 =>
    subst hX
    intro α H locs ls hO hl
    exact h α H locs ls ⟨hO.1, hO.2.1, hO.2.2.1, hO.2.2.2.1, hO.2.2.2.2.1.eqv he, hO.2.2.2.2.2⟩ hl
  unfold stp at h
  split at h
  · exact h.elim
  rename_i hlen
  have hlt : pc < M.2.1 := by
    rcases Nat.lt_or_ge pc M.2.1 with q | q
    · exact q
    · rw [Nat.ble_eq_true_of_le q] at hlen; cases hlen
  have hE := hC pc hlt
  have hE3 := hN3 pc hlt
  generalize hME : M.1 pc = E at h hE hE3
  obtain ⟨i, np, a, b, c9, d, tl⟩ := E
  unfold st at h
  unfold okE at hE
  cases i <;> first | exact False.elim h | skip
  all_goals dsimp only at h hE
  case iconst n =>
    obtain ⟨hd, hn⟩ := dE hE
    subst hX
    exact xw_const hx hb hd (bq hn) h
  case bipush n =>
    obtain ⟨hd, hn⟩ := dE hE
    obtain ⟨h1, h2⟩ := Bool.and_eq_true_iff.mp hn
    subst hX
    exact xw_bipush hx hb hd (bq h1) (of_decide_eq_true h2) h
  case sipush n =>
    obtain ⟨hd, hn⟩ := dE hE
    obtain ⟨h1, h2⟩ := Bool.and_eq_true_iff.mp hn
    subst hX
    exact xw_sipush hx hb hd (bq h1) (of_decide_eq_true h2) h
  case ldc idx =>
    obtain ⟨hd, hn⟩ := dE hE
    obtain ⟨h1, h2⟩ := Bool.and_eq_true_iff.mp hn
    subst hX
    exact xw_ldc hx hb hown (hts _ (inT_spec h2)) hd (bq h1) h
  case ldc_w idx =>
    obtain ⟨hd, hn⟩ := dE hE
    obtain ⟨h1, h2⟩ := Bool.and_eq_true_iff.mp hn
    subst hX
    exact xw_ldcw hx hb hown (hts _ (inT_spec h2)) hd (bq h1) h
  case ldc2_w idx =>
    obtain ⟨hd, hn⟩ := dE hE
    obtain ⟨h1, h2⟩ := Bool.and_eq_true_iff.mp hn
    subst hX
    exact xw_ldc2 hx hb hown (hts _ (inT_spec h2)) hd (bq h1) h
  case lconst n =>
    obtain ⟨hd, hn⟩ := dE hE
    obtain ⟨h1, h2⟩ := Bool.and_eq_true_iff.mp hn
    subst hX
    exact xw_lconst hx hb (bq h2) hd (bq h1) h
  case aconst_null =>
    obtain ⟨hd, hn⟩ := dE hE
    subst hX
    exact xw_null hx hb hd (bq hn) h
  case iload k =>
    obtain ⟨hd, hn⟩ := dE hE
    split at h
    · rename_i hz
      subst hX
      exact xw_iload hx hb hz hd (bq hn) h
    · exact h.elim
  case iload_n k =>
    obtain ⟨hd, hn⟩ := dE hE
    split at h
    · rename_i hz
      subst hX
      exact xw_iload_n hx hb hz hd (bq hn) h
    · exact h.elim
  case lload_n k =>
    obtain ⟨hd, hn⟩ := dE hE
    split at h
    · rename_i hz
      subst hX
      exact xw_lload_n hx hb hz hd (bq hn) h
    · exact h.elim
  case aload k =>
    obtain ⟨hd, hn⟩ := dE hE
    split at h
    · rename_i hz
      subst hX
      exact xw_aload hx hb hz hd (bq hn) h
    · exact h.elim
  case aload_n k =>
    obtain ⟨hd, hn⟩ := dE hE
    split at h
    · rename_i hz
      subst hX
      exact xw_aload_n hx hb hz hd (bq hn) h
    · exact h.elim
  case istore k =>
    obtain ⟨hd, hn⟩ := dE hE
    obtain ⟨h1, h2⟩ := Bool.and_eq_true_iff.mp hn
    split at h
    · subst hX
      exact xw_istore hx hb (of_decide_eq_true h2) hd (bq h1) h
    · exact h.elim
  case istore_n k =>
    obtain ⟨hd, hn⟩ := dE hE
    obtain ⟨h1, h2⟩ := Bool.and_eq_true_iff.mp hn
    split at h
    · subst hX
      exact xw_istore_n hx hb (of_decide_eq_true h2) hd (bq h1) h
    · exact h.elim
  case astore k =>
    obtain ⟨hd, hn⟩ := dE hE
    obtain ⟨h1, h2⟩ := Bool.and_eq_true_iff.mp hn
    split at h
    · subst hX
      exact xw_astore hx hb (of_decide_eq_true h2) hd (bq h1) h
    · exact h.elim
  case astore_n k =>
    obtain ⟨hd, hn⟩ := dE hE
    obtain ⟨h1, h2⟩ := Bool.and_eq_true_iff.mp hn
    split at h
    · subst hX
      exact xw_astore_n hx hb (of_decide_eq_true h2) hd (bq h1) h
    · exact h.elim
  case iinc k n =>
    obtain ⟨hd, hn⟩ := dE hE
    obtain ⟨h1, h2⟩ := Bool.and_eq_true_iff.mp hn
    split at h
    · rename_i hz
      subst hX
      exact xw_iinc hx hb hz (of_decide_eq_true h2) hd (bq h1) h
    · exact h.elim
  case dup =>
    obtain ⟨hd, hn⟩ := dE hE
    split at h
    · split at h
      · rename_i hc
        subst hX
        exact xw_dup hx hb hc hd (bq hn) h
      · exact h.elim
    · exact h.elim
  case pop =>
    obtain ⟨hd, hn⟩ := dE hE
    split at h
    · split at h
      · rename_i hc
        subst hX
        exact xw_pop hx hb hc hd (bq hn) h
      · exact h.elim
    · exact h.elim
  case dup2 =>
    obtain ⟨hd, hn⟩ := dE hE
    split at h
    · split at h
      · rename_i hc
        subst hX
        exact xw_dup2 hx hb hc hd (bq hn) h
      · exact h.elim
    · exact h.elim
  case iadd =>
    obtain ⟨hd, hn⟩ := dE hE
    split at h
    · subst hX
      exact xw_iadd hx hb hd (bq hn) h
    · exact h.elim
  case isub =>
    obtain ⟨hd, hn⟩ := dE hE
    split at h
    · subst hX
      exact xw_isub hx hb hd (bq hn) h
    · exact h.elim
  case imul =>
    obtain ⟨hd, hn⟩ := dE hE
    split at h
    · subst hX
      exact xw_imul hx hb hd (bq hn) h
    · exact h.elim
  case iand =>
    obtain ⟨hd, hn⟩ := dE hE
    split at h
    · subst hX
      exact xw_iand hx hb hd (bq hn) h
    · exact h.elim
  case ior =>
    obtain ⟨hd, hn⟩ := dE hE
    split at h
    · subst hX
      exact xw_ior hx hb hd (bq hn) h
    · exact h.elim
  case ixor =>
    obtain ⟨hd, hn⟩ := dE hE
    split at h
    · subst hX
      exact xw_ixor hx hb hd (bq hn) h
    · exact h.elim
  case ishl =>
    obtain ⟨hd, hn⟩ := dE hE
    split at h
    · subst hX
      exact xw_ishl hx hb hd (bq hn) h
    · exact h.elim
  case ishr =>
    obtain ⟨hd, hn⟩ := dE hE
    split at h
    · subst hX
      exact xw_ishr hx hb hd (bq hn) h
    · exact h.elim
  case iushr =>
    obtain ⟨hd, hn⟩ := dE hE
    split at h
    · subst hX
      exact xw_iushr hx hb hd (bq hn) h
    · exact h.elim
  case land =>
    obtain ⟨hd, hn⟩ := dE hE
    split at h
    · subst hX
      exact xw_land hx hb hd (bq hn) h
    · exact h.elim
  case lor =>
    obtain ⟨hd, hn⟩ := dE hE
    split at h
    · subst hX
      exact xw_lor hx hb hd (bq hn) h
    · exact h.elim
  case lxor =>
    obtain ⟨hd, hn⟩ := dE hE
    split at h
    · subst hX
      exact xw_lxor hx hb hd (bq hn) h
    · exact h.elim
  case lshl =>
    obtain ⟨hd, hn⟩ := dE hE
    split at h
    · subst hX
      exact xw_lshl hx hb hd (bq hn) h
    · exact h.elim
  case lushr =>
    obtain ⟨hd, hn⟩ := dE hE
    split at h
    · subst hX
      exact xw_lushr hx hb hd (bq hn) h
    · exact h.elim
  case lcmp =>
    obtain ⟨hd, hn⟩ := dE hE
    split at h
    · subst hX
      exact xw_lcmp hx hb hd (bq hn) h
    · exact h.elim
  case i2l =>
    obtain ⟨hd, hn⟩ := dE hE
    split at h
    · subst hX
      exact xw_i2l hx hb hd (bq hn) h
    · exact h.elim
  case l2i =>
    obtain ⟨hd, hn⟩ := dE hE
    split at h
    · subst hX
      exact xw_l2i hx hb hd (bq hn) h
    · exact h.elim
  case i2b =>
    obtain ⟨hd, hn⟩ := dE hE
    split at h
    · subst hX
      exact xw_i2b hx hb hd (bq hn) h
    · exact h.elim
  case idiv =>
    obtain ⟨hd, hn⟩ := dE hE
    split at h
    · subst hX
      exact xw_idiv hx hb h.1 hd (bq hn) h.2
    · exact h.elim
  case irem =>
    obtain ⟨hd, hn⟩ := dE hE
    split at h
    · subst hX
      exact xw_irem hx hb h.1 hd (bq hn) h.2
    · exact h.elim
  case goto off =>
    obtain ⟨hd, hn⟩ := dE hE
    obtain ⟨h1, h2⟩ := Bool.and_eq_true_iff.mp hn
    subst hX
    exact xw_goto hx hb hd (bq h1) (of_decide_eq_true h2) h
  case if_icmp cd off =>
    obtain ⟨hd, hn⟩ := dE hE
    obtain ⟨h1, h2⟩ := Bool.and_eq_true_iff.mp hn
    split at h
    · subst hX
      exact xw_icmp hx hb hd (bq h1) (of_decide_eq_true h2) h
    · exact h.elim
  case ifCond cd off =>
    obtain ⟨hd, hn⟩ := dE hE
    obtain ⟨h1, h2⟩ := Bool.and_eq_true_iff.mp hn
    split at h
    · subst hX
      exact xw_if hx hb hd (bq h1) (of_decide_eq_true h2) h
    · exact h.elim
  case ifnull off =>
    obtain ⟨hd, hn⟩ := dE hE
    obtain ⟨h1, h2⟩ := Bool.and_eq_true_iff.mp hn
    split at h
    · subst hX
      exact xw_ifnull hx hb hd (bq h1) (of_decide_eq_true h2) h
    · exact h.elim
  case ifnonnull off =>
    obtain ⟨hd, hn⟩ := dE hE
    obtain ⟨h1, h2⟩ := Bool.and_eq_true_iff.mp hn
    split at h
    · subst hX
      exact xw_ifnonnull hx hb hd (bq h1) (of_decide_eq_true h2) h
    · exact h.elim
  case tableswitch dflt lo hi offs =>
    obtain ⟨hd, hn⟩ := dE hE
    obtain ⟨h12, h3⟩ := Bool.and_eq_true_iff.mp hn
    obtain ⟨h1, h2⟩ := Bool.and_eq_true_iff.mp h12
    split at h
    · subst hX
      exact xw_tableswitch hx hb hd (of_decide_eq_true h1) (of_decide_eq_true h2) (of_decide_eq_true h3) h
    · exact h.elim
  case lookupswitch dflt ps =>
    obtain ⟨hd, hn⟩ := dE hE
    obtain ⟨h12, h3⟩ := Bool.and_eq_true_iff.mp hn
    obtain ⟨h1, h2⟩ := Bool.and_eq_true_iff.mp h12
    split at h
    · subst hX
      exact xw_lookupswitch hx hb hd (of_decide_eq_true h1) h2 (of_decide_eq_true h3) h
    · exact h.elim
  case getfield idx =>
    obtain ⟨hd, hn⟩ := dE hE
    obtain ⟨h1, h2⟩ := Bool.and_eq_true_iff.mp hn
    split at h2
    · rename_i C T n hc
      obtain ⟨h23, h4⟩ := Bool.and_eq_true_iff.mp h2
      obtain ⟨h2, h3⟩ := Bool.and_eq_true_iff.mp h23
      split at h
      · split at h
        · rename_i hK
          subst hX
          refine xh_get hx hb hts hown hT.1 hc (of_decide_eq_true h2) (shp_obj hc) (hts _ (inT_spec h3)) ?_ hd (bq h1) hK h
          have h5 := beq_iff_eq.mp h4
          rw [h5, Bool.not_eq_true', Bool.or_eq_false_iff]
          constructor
          · rintro ⟨q1, q2⟩ (rfl | rfl)
            · cases q1
            · cases q2
          · intro q
            exact ⟨(Bool.not_eq_true _).mp (fun z => q (Or.inl (bq z))), (Bool.not_eq_true _).mp (fun z => q (Or.inr (bq z)))⟩
        · exact h.elim
      · exact h.elim
    · cases h2
  case putfield idx =>
    obtain ⟨hd, hn⟩ := dE hE
    obtain ⟨h1, h2⟩ := Bool.and_eq_true_iff.mp hn
    split at h2
    case h_2 => cases h2
    rename_i C T n hc
    obtain ⟨h23, h4⟩ := Bool.and_eq_true_iff.mp h2
    obtain ⟨h2, h3⟩ := Bool.and_eq_true_iff.mp h23
    have hb1 := of_decide_eq_true h2
    have hlk := hts _ (inT_spec h3)
    have rN : ∀ (t : FieldType) (v : Option Nat) (α : Nat → Nat), refT t = true → narrow t (cv α (.inr (.inl v))) = cv α (.inr (.inl v)) ∧ fits t (cv α (.inr (.inl v))) = true := by
      intro t v α ht
      cases t <;> first | (cases v <;> exact ⟨rfl, rfl⟩) | cases ht
    have rI : ∀ (t : FieldType), refT t = true → ¬ isI t = true := by
      intro t ht
      cases t <;> first | (intro q; cases q; done) | cases ht
    split at h
    · split at h
      case h_2 => exact h.elim
      rename_i hK
      split at h
      · obtain ⟨g1, g2⟩ := Bool.and_eq_true_iff.mp h4
        have g3 := of_decide_eq_true g2
        have gi : isI (tyN a b) = true := by rw [g3]; rfl
        subst hX
        exact xh_put0 hx hb hts hown hT.1 hc hb1 (shp_obj hc) hlk (Or.inl ((Bool.not_eq_true' _).mp g1)) (fun α => by rw [g3]; rfl) (fun α => by rw [g3]; rfl) hd (bq h1) hK (fun α k => fva_upI gi k) (fun i hi k => ⟨up2_ne hi k, rfl⟩) h
      · obtain ⟨g012, g3⟩ := Bool.and_eq_true_iff.mp h4
        obtain ⟨g01, g2⟩ := Bool.and_eq_true_iff.mp g012
        obtain ⟨g0, g1⟩ := Bool.and_eq_true_iff.mp g01
        have g3 := of_decide_eq_true g3
        have gi : isI (tyN a b) = true := by rw [g3]; rfl
        subst hX
        exact xh_put0 hx hb hts hown hT.1 hc hb1 (shp_obj hc) hlk (Or.inr ⟨g0, hini g1, of_decide_eq_true g2⟩) (fun α => by rw [g3]; rfl) (fun α => by rw [g3]; rfl) hd (bq h1) hK (fun α k => fva_upI gi k) (fun i hi k => ⟨up2_ne hi k, rfl⟩) h
      · obtain ⟨g1, g2⟩ := Bool.and_eq_true_iff.mp h4
        have g3 := of_decide_eq_true g2
        have gi : isI (tyN a b) = true := by rw [g3]; rfl
        subst hX
        exact xh_put0 hx hb hts hown hT.1 hc hb1 (shp_obj hc) hlk (Or.inl ((Bool.not_eq_true' _).mp g1)) (fun α => by rw [g3]; rcases h.1 with rfl | rfl <;> rfl) (fun α => by rw [g3]; rcases h.1 with rfl | rfl <;> rfl) hd (bq h1) hK (fun α k => fva_upI gi k) (fun i hi k => ⟨up2_ne hi k, rfl⟩) h.2
      · exact h.elim
    · split at h
      case h_2 => exact h.elim
      rename_i hK
      split at h
      · obtain ⟨g1, g2⟩ := Bool.and_eq_true_iff.mp h4
        subst hX
        exact xh_put0 hx hb hts hown hT.1 hc hb1 (shp_obj hc) hlk (Or.inl ((Bool.not_eq_true' _).mp g1)) (fun α => (rN _ _ α g2).1) (fun α => (rN _ _ α g2).2) hd (bq h1) hK (fun α k => fva_upR (rI _ g2) k) (fun i hi k => ⟨rfl, up2_ne hi k⟩) h
      · obtain ⟨g012, g3⟩ := Bool.and_eq_true_iff.mp h4
        obtain ⟨g01, g2⟩ := Bool.and_eq_true_iff.mp g012
        obtain ⟨g0, g1⟩ := Bool.and_eq_true_iff.mp g01
        subst hX
        exact xh_put0 hx hb hts hown hT.1 hc hb1 (shp_obj hc) hlk (Or.inr ⟨g0, hini g1, of_decide_eq_true g2⟩) (fun α => (rN _ _ α g3).1) (fun α => (rN _ _ α g3).2) hd (bq h1) hK (fun α k => fva_upR (rI _ g3) k) (fun i hi k => ⟨rfl, up2_ne hi k⟩) h
      · exact h.elim
    · exact h.elim
  case iaload =>
    obtain ⟨hd, hn⟩ := dE hE
    split at h
    · split at h
      · rename_i ho
        subst hX
        exact xh_scr hx hb hd (bq hn) ho h.1 hsc h.2
      · split at h
        · rename_i hK
          subst hX
          exact xh_iald hx hb hT.1 hd (bq hn) hK h.1 h.2
        · exact h.elim
    · exact h.elim
  case baload =>
    obtain ⟨hd, hn⟩ := dE hE
    split at h
    · split at h
      · rename_i hK
        subst hX
        exact xh_bald hx hb hT.1 hd (bq hn) hK h.1 h.2
      · exact h.elim
    · exact h.elim
  case laload =>
    obtain ⟨hd, hn⟩ := dE hE
    split at h
    · split at h
      · rename_i hK
        subst hX
        exact xh_lald hx hb hT.1 hd (bq hn) hK h.1 h.2
      · exact h.elim
    · exact h.elim
  case aaload =>
    obtain ⟨hd, hn⟩ := dE hE
    split at h
    · split at h
      · rename_i hK
        subst hX
        exact xh_aald hx hb hT.1 hd (bq hn) hK h.1 h.2
      · exact h.elim
    · exact h.elim
  case iastore =>
    obtain ⟨hd, hn⟩ := dE hE
    split at h
    · split at h
      · rename_i hK
        subst hX
        exact xh_iast hx hb hT.1 hd (bq hn) hK h.1 h.2
      · exact h.elim
    · exact h.elim
  case bastore =>
    obtain ⟨hd, hn⟩ := dE hE
    split at h
    · split at h
      · rename_i hK
        subst hX
        exact xh_bast hx hb hT.1 hd (bq hn) hK h.1 h.2
      · exact h.elim
    · exact h.elim
  case lastore =>
    obtain ⟨hd, hn⟩ := dE hE
    split at h
    · split at h
      · rename_i hK
        subst hX
        exact xh_last hx hb hT.1 hd (bq hn) hK h.1 h.2
      · exact h.elim
    · exact h.elim
  case arraylength =>
    obtain ⟨hd, hn⟩ := dE hE
    split at h
    · split at h
      · rename_i ho
        subst hX
        exact xh_slen hx hb hd (bq hn) ho h
      · split at h
        · rename_i hK
          subst hX
          exact xh_alen hx hb hT.1 hd (bq hn) hK h
        · exact h.elim
    · exact h.elim
  case new idx =>
    obtain ⟨hd, hn⟩ := dE hE
    obtain ⟨h1, h2⟩ := Bool.and_eq_true_iff.mp hn
    have h1 := bq h1
    split at h
    · rename_i ha
      rw [ha] at h2
      simp only [cond_true, Bool.and_eq_true, decide_eq_true_eq] at h2
      obtain ⟨⟨⟨⟨⟨⟨q1, q2⟩, q3⟩, q4⟩, q5⟩, q6⟩, q7⟩ := h2
      split at h
      · rename_i hK
        have hge := Nat.le_of_ble_eq_true ha
        rw [Bool.and_eq_true] at hK
        rw [q1] at q4
        rw [bq q3] at q6
        rw [h1, Nat.add_sub_cancel_left] at hd
        exact hrT pc idx L S N fi fr ai al (a - 100) (by omega) q1 (inT_spec q4) hd q5 q6 q7 (Nat.le_of_ble_eq_true hK.2) (bq hK.1) h.1 h.2
      · exact h.elim
    · rename_i ha
      rw [ha] at h2
      simp only [cond_false] at h2
      split at h2
      · rename_i C T n hc
        split at h
        · rename_i hK
          subst hX
          obtain ⟨c1, c2⟩ := cl_new hc
          exact xn_new hx hb hts hown hT.1 hc (shp_obj hc) (hts _ (inT_spec h2)) (hts _ c1) (hts _ c2) hNf hRc hRs hd h1 (bq hK) h.1 h.2
        · exact h.elim
      · cases h2
  case newarray t =>
    obtain ⟨hd, hn⟩ := dE hE
    obtain ⟨h12, h3⟩ := Bool.and_eq_true_iff.mp hn
    obtain ⟨h1, h2⟩ := Bool.and_eq_true_iff.mp h12
    split at h
    · split at h
      · rename_i hK
        subst hX
        exact xn_newa hx hb hT.1 (of_decide_eq_true h2) (of_decide_eq_true h3) (hts _ (ar_words a (of_decide_eq_true h3))) hNf hRc hRs (shp_sm md N) hd (bq h1) (bq hK) h.1 h.2
      · exact h.elim
    · exact h.elim
  case multianewarray idx dm =>
    obtain ⟨hd, hn⟩ := dE hE
    obtain ⟨h12, h3⟩ := Bool.and_eq_true_iff.mp hn
    obtain ⟨h1, h2⟩ := Bool.and_eq_true_iff.mp h12
    have h2 := bq h2
    subst h2
    split at h
    · split at h
      · rename_i hK
        obtain ⟨k1, k2⟩ := Bool.and_eq_true_iff.mp hK
        subst hX
        exact xn_mna hx hb hown hT.1 (hts _ (inT_spec h3)) hT.2.2.1 (hts _ (ar_words 0 (by omega))) hNf hRc hRs ⟨shp_sm md N, shp_sm md (N + 1)⟩ hd (bq h1) (Prod.ext (bq k1) rfl) (gridok_spec k2) h.1 h.2
      · exact h.elim
    · exact h.elim
  case invokevirtual idx =>
    obtain ⟨hd, hn⟩ := dE hE
    simp only [Bool.and_eq_true, decide_eq_true_eq] at hn
    obtain ⟨⟨⟨⟨⟨h1, h2⟩, h3⟩, h4⟩, h5⟩, h6⟩ := hn
    have h1 := bq h1
    rw [h1, Nat.add_sub_cancel_left] at hd
    have hd10 : d < 100 := by
      obtain ⟨q, hq, -⟩ := Option.map_eq_some_iff.mp h6
      have := cl_lt hq
      omega
    subst hX
    exact xi_inv hKS hx hb hml hown hts hT hR hRc hRs hNf h2 (hMa a h2) (bq h4) h1 (Or.inl ⟨hd, bq h5, hd10, h6, inT_spec h3⟩) (inv_mono2 hKm hex h)
  case invokespecial idx =>
    obtain ⟨hd, hn⟩ := dE hE
    obtain ⟨h1, h2⟩ := Bool.and_eq_true_iff.mp hn
    have h1 := bq h1
    split at h
    · rename_i ha
      rw [ha] at h2
      simp only [cond_true] at h2
      have ha := bq ha
      subst ha
      unfold nat4 at h
      split at h
      · rename_i q; cases q
      · rename_i q; cases q
      · rename_i q; cases q
      · split at h
        · rename_i hw
          subst hX
          exact xn_obj hx hb hml hown (hts _ (inT_spec h2)) (hts _ (nat_words _ (by simp))) (hts _ (nat_words _ (by simp))) (by omega) (by omega) (Nat.le_of_ble_eq_true hw) hd h1 h
        · exact h.elim
      · exact h.elim
    · rename_i ha
      rw [ha] at h2
      simp only [cond_false, Bool.and_eq_true, decide_eq_true_eq] at h2
      obtain ⟨⟨⟨h2, h3⟩, h4⟩, h5⟩ := h2
      rw [h1, Nat.add_sub_cancel_left] at hd
      subst hX
      refine xi_inv hKS hx hb hml hown hts hT hR hRc hRs hNf h2 (hMa a h2) (bq h3) h1 (Or.inr (Or.inr ⟨hd, bq h4, rfl, ?_⟩)) (inv_mono2 hKm hex h)
      cases hd3 : Nat.beq d 3 with
      | false => rw [hd3] at h5; exact Or.inl (inT_spec h5)
      | true =>
        rw [hd3] at h5
        obtain ⟨q, hq, hq2⟩ := List.any_eq_true.mp h5
        simp only [Bool.and_eq_true, decide_eq_true_eq] at hq2
        exact Or.inr ⟨q, hq, hq2.1.1, bq hq2.1.2, hq2.2⟩
  case invokestatic idx =>
    obtain ⟨hd, hn⟩ := dE hE
    obtain ⟨h1, h2⟩ := Bool.and_eq_true_iff.mp hn
    have h1 := bq h1
    split at h
    · rename_i ha
      rw [ha] at h2
      simp only [cond_true] at h2
      have hlk := hts _ (inT_spec h2)
      unfold nat4 at h
      split at h
      · split at h
        · rename_i hw
          subst hX
          exact xn_min hx hb hml hown hlk (hts _ (nat_words _ (by simp))) (hts _ (nat_words _ (by simp))) (hts _ (nat_words _ (by simp))) (by omega) (by omega) (fun α H locs hO => hO1 _ _ _ _ _ _ _ _ hO) (Nat.le_of_ble_eq_true hw) h.1 hd h1 h.2
        · exact h.elim
      · split at h
        · rename_i hw
          subst hX
          exact xn_max hx hb hml hown hlk (hts _ (nat_words _ (by simp))) (hts _ (nat_words _ (by simp))) (hts _ (nat_words _ (by simp))) (by omega) (by omega) (fun α H locs hO => hO1 _ _ _ _ _ _ _ _ hO) (Nat.le_of_ble_eq_true hw) h.1 hd h1 h.2
        · exact h.elim
      · split at h
        · rename_i hw
          simp only [Bool.and_eq_true] at hw
          subst hX
          exact xn_copy hx hb hml hown hT.1 hlk (hts _ (nat_words _ (by simp))) (hts _ (nat_words _ (by simp))) (hts _ (nat_words _ (by simp))) (by omega) (by omega) (Nat.le_of_ble_eq_true hw.2) hw.1.1 hw.1.2 h.1 hd h1 h.2
        · exact h.elim
      · exact Bool.noConfusion (show false = true from hE3)
      · exact h.elim
    · rename_i ha
      rw [ha] at h2
      simp only [cond_false, Bool.and_eq_true, decide_eq_true_eq] at h2
      obtain ⟨⟨⟨h2, h3⟩, h4⟩, h5⟩ := h2
      rw [h1, Nat.add_sub_cancel_left] at hd
      subst hX
      exact xi_inv hKS hx hb hml hown hts hT hR hRc hRs hNf h2 (hMa a h2) (bq h4) h1 (Or.inr (Or.inl ⟨hd, bq h5, rfl, inT_spec h3⟩)) (inv_mono2 hKm hex h)
  case ireturn =>
    obtain ⟨hd, hn⟩ := dE hE
    have hn := bq hn
    rw [hn, Nat.add_sub_cancel_left] at hd
    split at h
    · split at h
      · rename_i hbz
        exact hrI pc L _ N fi fr ai al hlt (by rw [hME]) hd (fun _ => h.1) h.2.1 h.2.2
      · rename_i hbz
        exact hrI pc L _ N fi fr ai al hlt (by rw [hME]) hd (fun q => by rw [hbz] at q; cases q) h.1 h.2
    · exact h.elim
  case areturn =>
    obtain ⟨hd, hn⟩ := dE hE
    have hn := bq hn
    rw [hn, Nat.add_sub_cancel_left] at hd
    split at h
    · exact hrA pc L _ N fi fr ai al hlt (by rw [hME]) hd h.1 h.2
    · exact h.elim
  case return_ =>
    obtain ⟨hd, hn⟩ := dE hE
    have hn := bq hn
    rw [hn, Nat.add_sub_cancel_left] at hd
    split at h
    · exact hrV pc L N fi fr ai al hlt (by rw [hME]) hd h.1 h.2
    · exact h.elim
