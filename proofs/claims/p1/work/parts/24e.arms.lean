/-! THE EVALUATOR IS SOUND: every arm of its answers to the step's arm -/
section Arms4
variable {E : eE} {ρ : Nat → Int} {scL : Nat} {scX : Nat → Int} {nx : nt} {iv : ivt} {K : ct} {ex : xt} {P : ot} {bz : Bool} {X : kt} {r : rs} {pc np N : Nat} {L : List (Option av)} {S : List av} {T : Tr 32}
theorem bif_no {t : Bool} {f : ef} (h : (bif t then f else a_no) E nx iv pc L S N T = some r) : t = true ∧ f E nx iv pc L S N T = some r := by
  cases t
  · exact nomatch (h : (none : Option rs) = some r)
  · exact ⟨rfl, h⟩
theorem fld_i {d o b : Nat} {fi : tF} {fr : tR} (e : (Nat.beq d 1 || Nat.beq d 11) = false) : fld d fi fr o b = .inl (fi o b) := by
  unfold fld
  split
  · exact nomatch e
  · exact nomatch e
  · rfl
theorem fld_r {d o b : Nat} {fi : tF} {fr : tR} (e : (Nat.beq d 1 || Nat.beq d 11) = true) : fld d fi fr o b = .inr (.inl (fr o b)) := by
  unfold fld
  split
  · rfl
  · rfl
  · rename_i h1 h2
    exfalso
    cases e1 : Nat.beq d 1
    · rw [e1] at e
      exact h2 (Nat.eq_of_beq_eq_true e)
    · exact h1 (Nat.eq_of_beq_eq_true e1)
set_option maxHeartbeats 4000000 in
theorem arms_sound (hE : EO E ρ scL scX) (h256 : r.2.1 ≤ 256) (hS : ∀ i, i < 256 → (shp E.1 i).2 ≤ 8388608) (hn : HN E ρ nx X r) (hi : HI E ρ iv K ex X r) (hP : ∀ o' fi fr ai al, orr ρ r.1 o' → hp ρ E.1 r.2.1 r.2.2 fi fr ai al → P o' fi fr ai al)
    (e : en) (hM : 10 ≤ E.1 ∨ 233 ≤ N) (hz : zi N T) (h : (armP bz e).1 E nx iv pc L S N T = some r) : GG E ρ (st E.1 K ex P r.2.1 bz scL scX X e) r pc L S N T := by
  obtain ⟨i, np, a, b, c, d, tl⟩ := e
  cases i
  case iconst n =>
    change (bif cnc n then a_con (.inl n) np else a_no) E nx iv pc L S N T = some r at h
    obtain ⟨hc, h⟩ := bif_no h
    exact s_con (v := .inl n) (v' := .inl n) (gm_self hc) (fun _ _ _ _ _ _ q => q) hn hM hz h
  case bipush n =>
    change (bif cnc n then a_con (.inl n) np else a_no) E nx iv pc L S N T = some r at h
    obtain ⟨hc, h⟩ := bif_no h
    exact s_con (v := .inl n) (v' := .inl n) (gm_self hc) (fun _ _ _ _ _ _ q => q) hn hM hz h
  case sipush n =>
    change (bif cnc n then a_con (.inl n) np else a_no) E nx iv pc L S N T = some r at h
    obtain ⟨hc, h⟩ := bif_no h
    exact s_con (v := .inl n) (v' := .inl n) (gm_self hc) (fun _ _ _ _ _ _ q => q) hn hM hz h
  case ldc k =>
    change (bif cnc (Int.ofNat a) then a_con (.inl (Int.ofNat a)) np else a_no) E nx iv pc L S N T = some r at h
    obtain ⟨hc, h⟩ := bif_no h
    exact s_con (v := .inl (Int.ofNat a)) (v' := .inl (Int.ofNat a)) (gm_self hc) (fun _ _ _ _ _ _ q => q) hn hM hz h
  case lconst n =>
    change (a_con (.inr (.inr (Int64.ofNat a))) np) E nx iv pc L S N T = some r at h
    exact s_con (v := .inr (.inr (Int64.ofNat a))) (v' := .inr (.inr (Int64.ofNat a))) rfl (fun _ _ _ _ _ _ q => q) hn hM hz h
  case ldc2_w k =>
    change (a_con (.inr (.inr (Int64.ofNat a))) np) E nx iv pc L S N T = some r at h
    exact s_con (v := .inr (.inr (Int64.ofNat a))) (v' := .inr (.inr (Int64.ofNat a))) rfl (fun _ _ _ _ _ _ q => q) hn hM hz h
  case aconst_null =>
    change (a_con (.inr (.inl none)) np) E nx iv pc L S N T = some r at h
    exact s_con (v := .inr (.inl none)) (v' := .inr (.inl none)) rfl (fun _ _ _ _ _ _ q => q) hn hM hz h
  case iload k =>
    change (a_ild k np) E nx iv pc L S N T = some r at h
    refine s_ild (fun z L' S' fi fr ai al e q => ?_) hn hM hz h
    show (match gl L' k with | some (.inl z) => X np L' (.inl z :: S') N fi fr ai al | _ => False)
    rw [e]
    exact q
  case iload_n k =>
    change (a_ild k.val np) E nx iv pc L S N T = some r at h
    refine s_ild (fun z L' S' fi fr ai al e q => ?_) hn hM hz h
    show (match gl L' k.val with | some (.inl z) => X np L' (.inl z :: S') N fi fr ai al | _ => False)
    rw [e]
    exact q
  case aload k =>
    change (a_ald k np) E nx iv pc L S N T = some r at h
    refine s_ald (fun z L' S' fi fr ai al e q => ?_) hn hM hz h
    show (match gl L' k with | some (.inr (.inl z)) => X np L' (.inr (.inl z) :: S') N fi fr ai al | _ => False)
    rw [e]
    exact q
  case aload_n k =>
    change (a_ald k.val np) E nx iv pc L S N T = some r at h
    refine s_ald (fun z L' S' fi fr ai al e q => ?_) hn hM hz h
    show (match gl L' k.val with | some (.inr (.inl z)) => X np L' (.inr (.inl z) :: S') N fi fr ai al | _ => False)
    rw [e]
    exact q
  case lload_n k =>
    change (a_lld k.val np) E nx iv pc L S N T = some r at h
    refine s_lld (fun z L' S' fi fr ai al e q => ?_) hn hM hz h
    show (match gl L' k.val with | some (.inr (.inr z)) => X np L' (.inr (.inr z) :: S') N fi fr ai al | _ => False)
    rw [e]
    exact q
  case istore k =>
    change (a_ist k np) E nx iv pc L S N T = some r at h
    exact s_ist (fun _ _ _ _ _ _ _ q => q) hn hM hz h
  case istore_n k =>
    change (a_ist k.val np) E nx iv pc L S N T = some r at h
    exact s_ist (fun _ _ _ _ _ _ _ q => q) hn hM hz h
  case astore k =>
    change (a_ast k np) E nx iv pc L S N T = some r at h
    exact s_ast (fun _ _ _ _ _ _ _ q => q) hn hM hz h
  case astore_n k =>
    change (a_ast k.val np) E nx iv pc L S N T = some r at h
    exact s_ast (fun _ _ _ _ _ _ _ q => q) hn hM hz h
  case iinc k n =>
    change (a_inc k n np) E nx iv pc L S N T = some r at h
    refine s_inc (fun z L' S' fi fr ai al e q => ?_) hn hM hz h
    show (match gl L' k with | some (.inl z) => X np (sl L' k (.inl (z + n))) S' N fi fr ai al | _ => False)
    rw [e]
    exact q
  case dup =>
    change (a_dup np) E nx iv pc L S N T = some r at h
    refine s_dup (fun v L' S' fi fr ai al e q => ?_) hn hM hz h
    show (match c1 v with | true => X np L' (v :: v :: S') N fi fr ai al | false => False)
    rw [e]
    exact q
  case dup2 =>
    change (a_dp2 np) E nx iv pc L S N T = some r at h
    refine s_dp2 (fun v w L' S' fi fr ai al e q => ?_) hn hM hz h
    show (match c1 v && c1 w with | true => X np L' (v :: w :: v :: w :: S') N fi fr ai al | false => False)
    rw [e]
    exact q
  case pop =>
    change (a_pop np) E nx iv pc L S N T = some r at h
    refine s_pop (fun v L' S' fi fr ai al e q => ?_) hn hM hz h
    show (match c1 v with | true => X np L' S' N fi fr ai al | false => False)
    rw [e]
    exact q
  case iadd =>
    change (a_bin (fun x y => x + y) np) E nx iv pc L S N T = some r at h
    exact s_bin (fun _ _ _ _ _ _ _ _ q => q) hn hM hz h
  case isub =>
    change (a_bin (fun x y => x - y) np) E nx iv pc L S N T = some r at h
    exact s_bin (fun _ _ _ _ _ _ _ _ q => q) hn hM hz h
  case imul =>
    change (a_bin (fun x y => x * y) np) E nx iv pc L S N T = some r at h
    exact s_bin (fun _ _ _ _ _ _ _ _ q => q) hn hM hz h
  case ior =>
    change (a_bin (b32 (fun p q => p ||| q)) np) E nx iv pc L S N T = some r at h
    exact s_bin (fun _ _ _ _ _ _ _ _ q => q) hn hM hz h
  case ixor =>
    change (a_bin (b32 (fun p q => p ^^^ q)) np) E nx iv pc L S N T = some r at h
    exact s_bin (fun _ _ _ _ _ _ _ _ q => q) hn hM hz h
  case ishl =>
    change (a_bin (b32 (fun p q => p <<< (q &&& 31))) np) E nx iv pc L S N T = some r at h
    exact s_bin (fun _ _ _ _ _ _ _ _ q => q) hn hM hz h
  case ishr =>
    change (a_bin (b32 (fun p q => p >>> (q &&& 31))) np) E nx iv pc L S N T = some r at h
    exact s_bin (fun _ _ _ _ _ _ _ _ q => q) hn hM hz h
  case iushr =>
    change (a_bin (b32 (fun p q => (p.toUInt32 >>> (q.toUInt32 &&& Int32.toUInt32 31)).toInt32)) np) E nx iv pc L S N T = some r at h
    exact s_bin (fun _ _ _ _ _ _ _ _ q => q) hn hM hz h
  case idiv =>
    change (a_div (fun x y => x.tdiv y) np) E nx iv pc L S N T = some r at h
    exact s_div (fun _ _ _ _ _ _ _ _ h1 q => ⟨h1, q⟩) hn hM hz h
  case irem =>
    change (a_div (fun x y => x.tmod y) np) E nx iv pc L S N T = some r at h
    exact s_div (fun _ _ _ _ _ _ _ _ h1 q => ⟨h1, q⟩) hn hM hz h
  case iand =>
    change (a_and np) E nx iv pc L S N T = some r at h
    exact s_and hE (fun _ _ _ _ _ _ _ _ q => q) hn hM hz h
  case land =>
    change (a_lbn (fun x y => x &&& y) np) E nx iv pc L S N T = some r at h
    exact s_lbn (fun _ _ _ _ _ _ _ _ q => q) hn hM hz h
  case lor =>
    change (a_lbn (fun x y => x ||| y) np) E nx iv pc L S N T = some r at h
    exact s_lbn (fun _ _ _ _ _ _ _ _ q => q) hn hM hz h
  case lxor =>
    change (a_lbn (fun x y => x ^^^ y) np) E nx iv pc L S N T = some r at h
    exact s_lbn (fun _ _ _ _ _ _ _ _ q => q) hn hM hz h
  case lshl =>
    change (a_lsh (fun y x => x <<< ((Int32.ofInt y).toInt64 &&& 63)) np) E nx iv pc L S N T = some r at h
    exact s_lsh (fun _ _ _ _ _ _ _ _ q => q) hn hM hz h
  case lushr =>
    change (a_lsh (fun y x => (x.toUInt64 >>> ((Int32.ofInt y).toInt64.toUInt64 &&& Int64.toUInt64 63)).toInt64) np) E nx iv pc L S N T = some r at h
    exact s_lsh (fun _ _ _ _ _ _ _ _ q => q) hn hM hz h
  case lcmp =>
    change (a_lcm np) E nx iv pc L S N T = some r at h
    exact s_lcm (fun _ _ _ _ _ _ _ _ q => q) hn hM hz h
  case i2l =>
    change (a_i2l np) E nx iv pc L S N T = some r at h
    exact s_i2l (fun _ _ _ _ _ _ _ q => q) hn hM hz h
  case l2i =>
    change (a_l2i np) E nx iv pc L S N T = some r at h
    exact s_l2i (fun _ _ _ _ _ _ _ q => q) hn hM hz h
  case i2b =>
    change (a_i2b np) E nx iv pc L S N T = some r at h
    exact s_i2b (fun _ _ _ _ _ _ _ q => q) hn hM hz h
  case goto k =>
    change (a_jmp a) E nx iv pc L S N T = some r at h
    exact s_jmp (X := X) (a := a) (fun _ _ _ _ _ _ q => q) hn hM hz h
  case if_icmp cd k =>
    change (a_icm cd a np) E nx iv pc L S N T = some r at h
    exact s_icm hE (fun _ _ _ _ _ _ _ _ q => q) hn hM hz h
  case ifCond cd k =>
    change (a_icn cd a np) E nx iv pc L S N T = some r at h
    exact s_icn hE (fun _ _ _ _ _ _ _ q => q) hn hM hz h
  case ifnull k =>
    change (a_nul a np) E nx iv pc L S N T = some r at h
    exact s_nul (fun _ _ _ _ _ _ _ h1 h2 => ⟨h1, h2⟩) hn hM hz h
  case ifnonnull k =>
    change (a_nul np a) E nx iv pc L S N T = some r at h
    exact s_nul (fun _ _ _ _ _ _ _ h1 h2 => ⟨h2, h1⟩) hn hM hz h
  case tableswitch k lo hi k2 =>
    change (bif ieq (lo + Int.ofNat tl.length) (hi + 1) then a_tsw a lo hi tl else a_no) E nx iv pc L S N T = some r at h
    obtain ⟨hc, h⟩ := bif_no h
    have hc := (ieq_iff _ _).mp hc
    exact s_tsw hE (fun _ _ _ _ _ _ _ q => q) (fun z hz f => tsw_hi tl lo (by omega)) hn hM hz h
  case lookupswitch k ps =>
    change (a_lsw a ps.toList tl) E nx iv pc L S N T = some r at h
    exact s_lsw hE (fun _ _ _ _ _ _ _ q => q) hn hM hz h
  case getfield k =>
    change (bif Nat.ble b 8388607 then (bif Nat.beq d 1 || Nat.beq d 11 then a_gfr a b np else a_gfi a b np) else a_no) E nx iv pc L S N T = some r at h
    obtain ⟨hb, h⟩ := bif_no h
    have hb := Nat.le_of_ble_eq_true hb
    cases e : (Nat.beq d 1 || Nat.beq d 11)
    · rw [e] at h
      refine s_gfi (iv := iv) hb (fun o L' S' fi fr ai al hk q => ?_) hn hM hz h
      show (match isK E.1 o (10 + a) N with | true => X np L' (fld d fi fr o b :: S') N fi fr ai al | false => False)
      rw [hk, fld_i e]
      exact q
    · rw [e] at h
      refine s_gfr (iv := iv) hb (fun o L' S' fi fr ai al hk q => ?_) hn hM hz h
      show (match isK E.1 o (10 + a) N with | true => X np L' (fld d fi fr o b :: S') N fi fr ai al | false => False)
      rw [hk, fld_r e]
      exact q
  case putfield k =>
    change (bif Nat.ble b 8388607 then a_pf d a b np else a_no) E nx iv pc L S N T = some r at h
    obtain ⟨hb, h⟩ := bif_no h
    have hb := Nat.le_of_ble_eq_true hb
    unfold a_pf at h
    revert h
    split
    · intro h
      refine s_pfi h256 hb (fun z o L' S' fi fr ai al hk q => ?_) hn hM hz h
      show (match isK E.1 o (10 + a) N with | true => X np L' S' N (up2 fi o b z) fr ai al | false => False)
      rw [hk]
      exact q
    · intro h
      refine s_pfi h256 hb (fun z o L' S' fi fr ai al hk q => ?_) hn hM hz h
      show (match isK E.1 o (10 + a) N with | true => X np L' S' N (up2 fi o b z) fr ai al | false => False)
      rw [hk]
      exact q
    · intro h
      refine s_pfz h256 hb (fun z o L' S' fi fr ai al hk h1 q => ?_) hn hM hz h
      show (match isK E.1 o (10 + a) N with | true => (z = 0 ∨ z = 1) ∧ X np L' S' N (up2 fi o b z) fr ai al | false => False)
      rw [hk]
      exact ⟨h1, q⟩
    · intro h
      refine s_pfr h256 hb (fun w o L' S' fi fr ai al hk q => ?_) hn hM hz h
      show (match isK E.1 o (10 + a) N with | true => X np L' S' N fi (up2 fr o b w) ai al | false => False)
      rw [hk]
      exact q
    · intro h
      refine s_pfr h256 hb (fun w o L' S' fi fr ai al hk q => ?_) hn hM hz h
      show (match isK E.1 o (10 + a) N with | true => X np L' S' N fi (up2 fr o b w) ai al | false => False)
      rw [hk]
      exact q
    · exact fun h => nomatch (h : (none : Option rs) = some r)
  case iaload =>
    change (a_ial np) E nx iv pc L S N T = some r at h
    refine s_ial hE h256 hS (fun j L' S' fi fr ai al hi q => ⟨hi, q⟩) (fun j o L' S' fi fr ai al h1 hk hi q => ?_) hn hM hz h
    show (match Nat.beq o 999999 with | true => inb j scL ∧ X np L' (.inl (scX j.toNat) :: S') N fi fr ai al | false => (match isK E.1 o 0 N with | true => inb j (shp E.1 o).2 ∧ X np L' (.inl (ai o j.toNat) :: S') N fi fr ai al | false => False))
    rw [h1]
    show (match isK E.1 o 0 N with | true => inb j (shp E.1 o).2 ∧ X np L' (.inl (ai o j.toNat) :: S') N fi fr ai al | false => False)
    rw [hk]
    exact ⟨hi, q⟩
  case iastore =>
    change (a_ias np) E nx iv pc L S N T = some r at h
    refine s_ias h256 hS (fun z j o L' S' fi fr ai al hk hi q => ?_) hn hM hz h
    show (match isK E.1 o 0 N with | true => inb j (shp E.1 o).2 ∧ X np L' S' N fi fr (up2 ai o j.toNat z) al | false => False)
    rw [hk]
    exact ⟨hi, q⟩
  case baload =>
    change (a_bal np) E nx iv pc L S N T = some r at h
    refine s_bal h256 hS (fun j o L' S' fi fr ai al hk hi q => ?_) hn hM hz h
    show (match isK E.1 o 1 N with | true => inb j (shp E.1 o).2 ∧ X np L' (.inl (ai o j.toNat) :: S') N fi fr ai al | false => False)
    rw [hk]
    exact ⟨hi, q⟩
  case bastore =>
    change (a_bas np) E nx iv pc L S N T = some r at h
    refine s_bas h256 hS (fun z j o L' S' fi fr ai al hk hi q => ?_) hn hM hz h
    show (match isK E.1 o 1 N with | true => inb j (shp E.1 o).2 ∧ X np L' S' N fi fr (up2 ai o j.toNat (byt z)) al | false => False)
    rw [hk]
    exact ⟨hi, q⟩
  case laload =>
    change (a_lal np) E nx iv pc L S N T = some r at h
    refine s_lal h256 hS (fun j o L' S' fi fr ai al hk hi q => ?_) hn hM hz h
    show (match isK E.1 o 2 N with | true => inb j (shp E.1 o).2 ∧ X np L' (.inr (.inr (al o j.toNat)) :: S') N fi fr ai al | false => False)
    rw [hk]
    exact ⟨hi, q⟩
  case lastore =>
    change (a_las np) E nx iv pc L S N T = some r at h
    refine s_las h256 hS (fun w j o L' S' fi fr ai al hk hi q => ?_) hn hM hz h
    show (match isK E.1 o 2 N with | true => inb j (shp E.1 o).2 ∧ X np L' S' N fi fr ai (up2 al o j.toNat w) | false => False)
    rw [hk]
    exact ⟨hi, q⟩
  case aaload =>
    change (a_aal np) E nx iv pc L S N T = some r at h
    refine s_aal (fun j o L' S' fi fr ai al hk hi q => ?_) hn hM hz h
    show (match isK E.1 o 3 N with | true => inb j (shp E.1 o).2 ∧ X np L' (.inr (.inl (some (o + 1 + j.toNat))) :: S') N fi fr ai al | false => False)
    rw [hk]
    exact ⟨hi, q⟩
  case arraylength =>
    change (a_len np) E nx iv pc L S N T = some r at h
    refine s_len hE (fun L' S' fi fr ai al q => q) (fun o L' S' fi fr ai al h1 hk q => ?_) hn hM hz h
    show (match Nat.beq o 999999 with | true => X np L' (.inl (scL : Int) :: S') N fi fr ai al | false => (match isAr E.1 o N with | true => X np L' (.inl ((shp E.1 o).2 : Int) :: S') N fi fr ai al | false => False))
    rw [h1]
    show (match isAr E.1 o N with | true => X np L' (.inl ((shp E.1 o).2 : Int) :: S') N fi fr ai al | false => False)
    rw [hk]
    exact q
  case new k =>
    change (bif Nat.ble 100 a then a_thr (a - 100) else a_new a np) E nx iv pc L S N T = some r at h
    cases e : Nat.ble 100 a
    · rw [e] at h
      refine s_new (iv := iv) (Y := st E.1 K ex P r.2.1 bz scL scX X (.new k, np, a, b, c, d, tl)) h256 (fun L' S' fi fr ai al hk hN q => ?_) hn hM hz h
      show (match Nat.ble 100 a with | true => (match Nat.beq (shp E.1 N).1 9 && Nat.ble (wsum S') 60 with | true => N + 1 = r.2.1 ∧ P (.inr (a - 100)) fi fr ai al | false => False) | false => (match Nat.beq (shp E.1 N).1 (10 + a) with | true => N + 1 ≤ r.2.1 ∧ X np L' (.inr (.inl (some N)) :: S') (N + 1) (clr fi N 0) (clr fr N none) ai al | false => False))
      rw [e]
      show (match Nat.beq (shp E.1 N).1 (10 + a) with | true => N + 1 ≤ r.2.1 ∧ X np L' (.inr (.inl (some N)) :: S') (N + 1) (clr fi N 0) (clr fr N none) ai al | false => False)
      rw [hk]
      exact ⟨hN, q⟩
    · rw [e] at h
      exact s_thr (iv := iv) (nx := nx) e rfl hP hz h
  case newarray k =>
    change (bif Nat.ble a 2 then a_nar a np else a_no) E nx iv pc L S N T = some r at h
    obtain ⟨ha, h⟩ := bif_no h
    refine s_nar (Nat.le_of_ble_eq_true ha) h256 (fun z L' S' fi fr ai al hk hN q => ?_) hn hM hz h
    show (match Nat.beq (shp E.1 N).1 a with | true => (z = ((shp E.1 N).2 : Int) ∧ N + 1 ≤ r.2.1) ∧ X np L' (.inr (.inl (some N)) :: S') (N + 1) fi fr (clr ai N 0) (clr al N 0) | false => False)
    rw [hk]
    exact ⟨hN, q⟩
  case multianewarray k k2 =>
    change (a_mna np) E nx iv pc L S N T = some r at h
    refine s_mna h256 (fun w z L' S' fi fr ai al hk hN q => ?_) hn hM hz h
    show (match Nat.beq (shp E.1 N).1 3 && gridok E.1 N (shp E.1 N).2 (shp E.1 (N + 1)).2 with | true => (z = ((shp E.1 N).2 : Int) ∧ w = ((shp E.1 (N + 1)).2 : Int) ∧ N + 1 + (shp E.1 N).2 ≤ r.2.1) ∧ X np L' (.inr (.inl (some N)) :: S') (N + 1 + (shp E.1 N).2) fi fr (clrR ai N (shp E.1 N).2 0) al | false => False)
    rw [hk]
    exact ⟨hN, q⟩
  case invokevirtual k =>
    change iv a b d pc np L S N T = some r at h
    have g := hi _ _ _ _ _ _ _ _ _ h hM hz
    exact ⟨g.1, g.2.1, fun L' S' fi fr ai al h1 h2 h3 => g.2.2 L' S' fi fr ai al h1 h2 h3⟩
  case invokespecial k =>
    change (bif Nat.beq a 1003 then a_nat a np else a_inv a b 101 np) E nx iv pc L S N T = some r at h
    cases e : Nat.beq a 1003
    · rw [e] at h
      have g := hi a b 101 pc np L S N T h hM hz
      refine ⟨g.1, g.2.1, fun L' S' fi fr ai al h1 h2 h3 => ?_⟩
      show (match Nat.beq a 1003 with | true => nat4 E.1 X a np L' S' N fi fr ai al | false => inv E.1 K ex r.2.1 X a b 101 pc np L' S' N fi fr ai al)
      rw [e]
      exact g.2.2 L' S' fi fr ai al h1 h2 h3
    · rw [e] at h
      refine s_nat (iv := iv) (fun L' S' N' fi fr ai al q => ?_) h256 hS hn hM hz h
      show (match Nat.beq a 1003 with | true => nat4 E.1 X a np L' S' N' fi fr ai al | false => inv E.1 K ex r.2.1 X a b 101 pc np L' S' N' fi fr ai al)
      rw [e]
      exact q
  case invokestatic k =>
    change (bif Nat.ble 1000 a then a_nat a np else a_inv a b 100 np) E nx iv pc L S N T = some r at h
    cases e : Nat.ble 1000 a
    · rw [e] at h
      have g := hi a b 100 pc np L S N T h hM hz
      refine ⟨g.1, g.2.1, fun L' S' fi fr ai al h1 h2 h3 => ?_⟩
      show (match Nat.ble 1000 a with | true => nat4 E.1 X a np L' S' N fi fr ai al | false => inv E.1 K ex r.2.1 X a b 100 pc np L' S' N fi fr ai al)
      rw [e]
      exact g.2.2 L' S' fi fr ai al h1 h2 h3
    · rw [e] at h
      refine s_nat (iv := iv) (fun L' S' N' fi fr ai al q => ?_) h256 hS hn hM hz h
      show (match Nat.ble 1000 a with | true => nat4 E.1 X a np L' S' N' fi fr ai al | false => inv E.1 K ex r.2.1 X a b 100 pc np L' S' N' fi fr ai al)
      rw [e]
      exact q
  case ireturn =>
    change (a_irt bz) E nx iv pc L S N T = some r at h
    exact s_irt hP hz h
  case areturn =>
    change (a_art) E nx iv pc L S N T = some r at h
    exact s_art hP hz h
  case return_ =>
    change (a_ret) E nx iv pc L S N T = some r at h
    exact s_ret hP hz h
  all_goals exact nomatch (h : (none : Option rs) = some r)
end Arms4
