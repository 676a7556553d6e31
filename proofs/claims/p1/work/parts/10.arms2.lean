section Arms2
variable {O : (Nat → Nat) → Nat → tF → tR → tF → tL → Heap → List Loc → Prop} {ce se : Nat → Nat} {nL : Nat} {p : Program} {l : Launch} {e : Env} {R : Room} {s : State} {m : MethodId} {args : Array Value} {below : List Frame} {meth : Method} {c : Code} {Q : State → Prop}
variable {cc : ByteArray} {pc np : Nat} {L : List (Option av)} {S S' : List av} {N : Nat} {fi : tF} {fr : tR} {ai : tF} {al : tL}
theorem xw_iadd (hx : p.tables.exec = Jvm.exec) (hb : c.code = cc) {x y : Int} (hd : decode cc pc = .ok (.iadd, np - pc)) (hn : np = pc + 1) (k : XW O ce se nL p l e R s m args below meth c Q np L (.inl (x + y) :: S) N fi fr ai al) : XW O ce se nL p l e R s m args below meth c Q pc L (.inl y :: .inl x :: S) N fi fr ai al := by
  subst hn
  rw [Nat.add_sub_cancel_left] at hd
  intro α H locs ls hO hl
  have k1 := k α H locs ls hO hl
  exact lv_iadd hx hb hd (by rw [oi_add]; exact k1)
theorem xw_isub (hx : p.tables.exec = Jvm.exec) (hb : c.code = cc) {x y : Int} (hd : decode cc pc = .ok (.isub, np - pc)) (hn : np = pc + 1) (k : XW O ce se nL p l e R s m args below meth c Q np L (.inl (x - y) :: S) N fi fr ai al) : XW O ce se nL p l e R s m args below meth c Q pc L (.inl y :: .inl x :: S) N fi fr ai al := by
  subst hn
  rw [Nat.add_sub_cancel_left] at hd
  intro α H locs ls hO hl
  have k1 := k α H locs ls hO hl
  exact lv_isub hx hb hd (by rw [oi_sub]; exact k1)
theorem xw_imul (hx : p.tables.exec = Jvm.exec) (hb : c.code = cc) {x y : Int} (hd : decode cc pc = .ok (.imul, np - pc)) (hn : np = pc + 1) (k : XW O ce se nL p l e R s m args below meth c Q np L (.inl (x * y) :: S) N fi fr ai al) : XW O ce se nL p l e R s m args below meth c Q pc L (.inl y :: .inl x :: S) N fi fr ai al := by
  subst hn
  rw [Nat.add_sub_cancel_left] at hd
  intro α H locs ls hO hl
  have k1 := k α H locs ls hO hl
  exact lv_imul hx hb hd (by rw [oi_mul]; exact k1)
theorem xw_idiv (hx : p.tables.exec = Jvm.exec) (hb : c.code = cc) {x y : Int} (h : rg x ∧ rg y ∧ y ≠ 0) (hd : decode cc pc = .ok (.idiv, np - pc)) (hn : np = pc + 1) (k : XW O ce se nL p l e R s m args below meth c Q np L (.inl (x.tdiv y) :: S) N fi fr ai al) : XW O ce se nL p l e R s m args below meth c Q pc L (.inl y :: .inl x :: S) N fi fr ai al := by
  subst hn
  rw [Nat.add_sub_cancel_left] at hd
  intro α H locs ls hO hl
  have k1 := k α H locs ls hO hl
  exact lv_idiv hx hb hd (fun q => h.2.2 (oi_inj h.2.1 rg0 q)) (by rw [oi_div h.1 h.2.1]; exact k1)
theorem xw_irem (hx : p.tables.exec = Jvm.exec) (hb : c.code = cc) {x y : Int} (h : rg x ∧ rg y ∧ y ≠ 0) (hd : decode cc pc = .ok (.irem, np - pc)) (hn : np = pc + 1) (k : XW O ce se nL p l e R s m args below meth c Q np L (.inl (x.tmod y) :: S) N fi fr ai al) : XW O ce se nL p l e R s m args below meth c Q pc L (.inl y :: .inl x :: S) N fi fr ai al := by
  subst hn
  rw [Nat.add_sub_cancel_left] at hd
  intro α H locs ls hO hl
  have k1 := k α H locs ls hO hl
  exact lv_irem hx hb hd (fun q => h.2.2 (oi_inj h.2.1 rg0 q)) (by rw [oi_rem h.1 h.2.1]; exact k1)
theorem xw_iand (hx : p.tables.exec = Jvm.exec) (hb : c.code = cc) {x y : Int} (hd : decode cc pc = .ok (.iand, np - pc)) (hn : np = pc + 1) (k : XW O ce se nL p l e R s m args below meth c Q np L (.inl (b32 (fun p q => p &&& q) x y) :: S) N fi fr ai al) : XW O ce se nL p l e R s m args below meth c Q pc L (.inl y :: .inl x :: S) N fi fr ai al := by
  subst hn
  rw [Nat.add_sub_cancel_left] at hd
  intro α H locs ls hO hl
  have k1 := k α H locs ls hO hl
  have k2 : cv α (.inl (b32 (fun p q => p &&& q) x y)) = .int ((fun p q : Int32 => p &&& q) (Int32.ofInt x) (Int32.ofInt y)) := by simp only [cv, b32, oi_of]
  rw [List.map_cons, k2] at k1
  exact lv_iand hx hb hd k1
theorem xw_ior (hx : p.tables.exec = Jvm.exec) (hb : c.code = cc) {x y : Int} (hd : decode cc pc = .ok (.ior, np - pc)) (hn : np = pc + 1) (k : XW O ce se nL p l e R s m args below meth c Q np L (.inl (b32 (fun p q => p ||| q) x y) :: S) N fi fr ai al) : XW O ce se nL p l e R s m args below meth c Q pc L (.inl y :: .inl x :: S) N fi fr ai al := by
  subst hn
  rw [Nat.add_sub_cancel_left] at hd
  intro α H locs ls hO hl
  have k1 := k α H locs ls hO hl
  have k2 : cv α (.inl (b32 (fun p q => p ||| q) x y)) = .int ((fun p q : Int32 => p ||| q) (Int32.ofInt x) (Int32.ofInt y)) := by simp only [cv, b32, oi_of]
  rw [List.map_cons, k2] at k1
  exact lv_ior hx hb hd k1
theorem xw_ixor (hx : p.tables.exec = Jvm.exec) (hb : c.code = cc) {x y : Int} (hd : decode cc pc = .ok (.ixor, np - pc)) (hn : np = pc + 1) (k : XW O ce se nL p l e R s m args below meth c Q np L (.inl (b32 (fun p q => p ^^^ q) x y) :: S) N fi fr ai al) : XW O ce se nL p l e R s m args below meth c Q pc L (.inl y :: .inl x :: S) N fi fr ai al := by
  subst hn
  rw [Nat.add_sub_cancel_left] at hd
  intro α H locs ls hO hl
  have k1 := k α H locs ls hO hl
  have k2 : cv α (.inl (b32 (fun p q => p ^^^ q) x y)) = .int ((fun p q : Int32 => p ^^^ q) (Int32.ofInt x) (Int32.ofInt y)) := by simp only [cv, b32, oi_of]
  rw [List.map_cons, k2] at k1
  exact lv_ixor hx hb hd k1
theorem xw_ishl (hx : p.tables.exec = Jvm.exec) (hb : c.code = cc) {x y : Int} (hd : decode cc pc = .ok (.ishl, np - pc)) (hn : np = pc + 1) (k : XW O ce se nL p l e R s m args below meth c Q np L (.inl (b32 (fun p q => p <<< (q &&& 31)) x y) :: S) N fi fr ai al) : XW O ce se nL p l e R s m args below meth c Q pc L (.inl y :: .inl x :: S) N fi fr ai al := by
  subst hn
  rw [Nat.add_sub_cancel_left] at hd
  intro α H locs ls hO hl
  have k1 := k α H locs ls hO hl
  have k2 : cv α (.inl (b32 (fun p q => p <<< (q &&& 31)) x y)) = .int ((fun p q : Int32 => p <<< (q &&& 31)) (Int32.ofInt x) (Int32.ofInt y)) := by simp only [cv, b32, oi_of]
  rw [List.map_cons, k2] at k1
  exact lv_ishl hx hb hd k1
theorem xw_ishr (hx : p.tables.exec = Jvm.exec) (hb : c.code = cc) {x y : Int} (hd : decode cc pc = .ok (.ishr, np - pc)) (hn : np = pc + 1) (k : XW O ce se nL p l e R s m args below meth c Q np L (.inl (b32 (fun p q => p >>> (q &&& 31)) x y) :: S) N fi fr ai al) : XW O ce se nL p l e R s m args below meth c Q pc L (.inl y :: .inl x :: S) N fi fr ai al := by
  subst hn
  rw [Nat.add_sub_cancel_left] at hd
  intro α H locs ls hO hl
  have k1 := k α H locs ls hO hl
  have k2 : cv α (.inl (b32 (fun p q => p >>> (q &&& 31)) x y)) = .int ((fun p q : Int32 => p >>> (q &&& 31)) (Int32.ofInt x) (Int32.ofInt y)) := by simp only [cv, b32, oi_of]
  rw [List.map_cons, k2] at k1
  exact lv_ishr hx hb hd k1
theorem xw_iushr (hx : p.tables.exec = Jvm.exec) (hb : c.code = cc) {x y : Int} (hd : decode cc pc = .ok (.iushr, np - pc)) (hn : np = pc + 1) (k : XW O ce se nL p l e R s m args below meth c Q np L (.inl (b32 (fun p q => (p.toUInt32 >>> (q.toUInt32 &&& Int32.toUInt32 31)).toInt32) x y) :: S) N fi fr ai al) : XW O ce se nL p l e R s m args below meth c Q pc L (.inl y :: .inl x :: S) N fi fr ai al := by
  subst hn
  rw [Nat.add_sub_cancel_left] at hd
  intro α H locs ls hO hl
  have k1 := k α H locs ls hO hl
  have k2 : cv α (.inl (b32 (fun p q => (p.toUInt32 >>> (q.toUInt32 &&& Int32.toUInt32 31)).toInt32) x y)) = .int ((fun p q : Int32 => (p.toUInt32 >>> (q.toUInt32 &&& Int32.toUInt32 31)).toInt32) (Int32.ofInt x) (Int32.ofInt y)) := by simp only [cv, b32, oi_of]
  rw [List.map_cons, k2] at k1
  exact lv_iushr hx hb hd rfl k1
theorem xw_land (hx : p.tables.exec = Jvm.exec) (hb : c.code = cc) {x y : Int64} (hd : decode cc pc = .ok (.land, np - pc)) (hn : np = pc + 1) (k : XW O ce se nL p l e R s m args below meth c Q np L (.inr (.inr (x &&& y)) :: S) N fi fr ai al) : XW O ce se nL p l e R s m args below meth c Q pc L (.inr (.inr y) :: .inr (.inr x) :: S) N fi fr ai al := by
  subst hn
  rw [Nat.add_sub_cancel_left] at hd
  intro α H locs ls hO hl
  have k1 := k α H locs ls hO hl
  exact lv_land hx hb hd k1
theorem xw_lor (hx : p.tables.exec = Jvm.exec) (hb : c.code = cc) {x y : Int64} (hd : decode cc pc = .ok (.lor, np - pc)) (hn : np = pc + 1) (k : XW O ce se nL p l e R s m args below meth c Q np L (.inr (.inr (x ||| y)) :: S) N fi fr ai al) : XW O ce se nL p l e R s m args below meth c Q pc L (.inr (.inr y) :: .inr (.inr x) :: S) N fi fr ai al := by
  subst hn
  rw [Nat.add_sub_cancel_left] at hd
  intro α H locs ls hO hl
  have k1 := k α H locs ls hO hl
  exact lv_lor hx hb hd k1
theorem xw_lxor (hx : p.tables.exec = Jvm.exec) (hb : c.code = cc) {x y : Int64} (hd : decode cc pc = .ok (.lxor, np - pc)) (hn : np = pc + 1) (k : XW O ce se nL p l e R s m args below meth c Q np L (.inr (.inr (x ^^^ y)) :: S) N fi fr ai al) : XW O ce se nL p l e R s m args below meth c Q pc L (.inr (.inr y) :: .inr (.inr x) :: S) N fi fr ai al := by
  subst hn
  rw [Nat.add_sub_cancel_left] at hd
  intro α H locs ls hO hl
  have k1 := k α H locs ls hO hl
  exact lv_lxor hx hb hd k1
theorem xw_lshl (hx : p.tables.exec = Jvm.exec) (hb : c.code = cc) {x : Int64} {y : Int} (hd : decode cc pc = .ok (.lshl, np - pc)) (hn : np = pc + 1) (k : XW O ce se nL p l e R s m args below meth c Q np L (.inr (.inr (x <<< ((Int32.ofInt y).toInt64 &&& 63))) :: S) N fi fr ai al) : XW O ce se nL p l e R s m args below meth c Q pc L (.inl y :: .inr (.inr x) :: S) N fi fr ai al := by
  subst hn
  rw [Nat.add_sub_cancel_left] at hd
  intro α H locs ls hO hl
  have k1 := k α H locs ls hO hl
  exact lv_lshl hx hb hd rfl k1
theorem xw_lushr (hx : p.tables.exec = Jvm.exec) (hb : c.code = cc) {x : Int64} {y : Int} (hd : decode cc pc = .ok (.lushr, np - pc)) (hn : np = pc + 1) (k : XW O ce se nL p l e R s m args below meth c Q np L (.inr (.inr ((x.toUInt64 >>> ((Int32.ofInt y).toInt64.toUInt64 &&& Int64.toUInt64 63)).toInt64)) :: S) N fi fr ai al) : XW O ce se nL p l e R s m args below meth c Q pc L (.inl y :: .inr (.inr x) :: S) N fi fr ai al := by
  subst hn
  rw [Nat.add_sub_cancel_left] at hd
  intro α H locs ls hO hl
  have k1 := k α H locs ls hO hl
  exact lv_lushr hx hb hd rfl k1
theorem xw_lcmp (hx : p.tables.exec = Jvm.exec) (hb : c.code = cc) {x y : Int64} (hd : decode cc pc = .ok (.lcmp, np - pc)) (hn : np = pc + 1) (k : XW O ce se nL p l e R s m args below meth c Q np L (.inl (lg_cmp x y).toInt :: S) N fi fr ai al) : XW O ce se nL p l e R s m args below meth c Q pc L (.inr (.inr y) :: .inr (.inr x) :: S) N fi fr ai al := by
  subst hn
  rw [Nat.add_sub_cancel_left] at hd
  intro α H locs ls hO hl
  have k1 := k α H locs ls hO hl
  have k2 : cv α (.inl (lg_cmp x y).toInt) = .int (lg_cmp x y) := by simp only [cv, oi_of]
  rw [List.map_cons, k2] at k1
  exact W.lcmp hx hb hd k1
theorem xw_i2l (hx : p.tables.exec = Jvm.exec) (hb : c.code = cc) {x : Int} (hd : decode cc pc = .ok (.i2l, np - pc)) (hn : np = pc + 1) (k : XW O ce se nL p l e R s m args below meth c Q np L (.inr (.inr (Int32.ofInt x).toInt64) :: S) N fi fr ai al) : XW O ce se nL p l e R s m args below meth c Q pc L (.inl x :: S) N fi fr ai al := by
  subst hn
  rw [Nat.add_sub_cancel_left] at hd
  intro α H locs ls hO hl
  have k1 := k α H locs ls hO hl
  exact lv_i2l hx hb hd rfl k1
theorem xw_l2i (hx : p.tables.exec = Jvm.exec) (hb : c.code = cc) {x : Int64} (hd : decode cc pc = .ok (.l2i, np - pc)) (hn : np = pc + 1) (k : XW O ce se nL p l e R s m args below meth c Q np L (.inl x.toInt32.toInt :: S) N fi fr ai al) : XW O ce se nL p l e R s m args below meth c Q pc L (.inr (.inr x) :: S) N fi fr ai al := by
  subst hn
  rw [Nat.add_sub_cancel_left] at hd
  intro α H locs ls hO hl
  have k1 := k α H locs ls hO hl
  have k2 : cv α (.inl x.toInt32.toInt) = .int x.toInt32 := by simp only [cv, oi_of]
  rw [List.map_cons, k2] at k1
  exact lv_l2i hx hb hd rfl k1
theorem xw_i2b (hx : p.tables.exec = Jvm.exec) (hb : c.code = cc) {x : Int} (hd : decode cc pc = .ok (.i2b, np - pc)) (hn : np = pc + 1) (k : XW O ce se nL p l e R s m args below meth c Q np L (.inl (byt x) :: S) N fi fr ai al) : XW O ce se nL p l e R s m args below meth c Q pc L (.inl x :: S) N fi fr ai al := by
  subst hn
  rw [Nat.add_sub_cancel_left] at hd
  intro α H locs ls hO hl
  have k1 := k α H locs ls hO hl
  have k2 : cv α (.inl (byt x)) = .int (Int32.ofInt x).toInt8.toInt32 := by simp only [cv, byt, oi_of]
  rw [List.map_cons, k2] at k1
  exact lv_i2b hx hb hd rfl k1
theorem xw_goto (hx : p.tables.exec = Jvm.exec) (hb : c.code = cc) {off : Int} {a : Nat} (hd : decode cc pc = .ok (.goto off, np - pc)) (hn : np = pc + 3) (ht : (pc : Int) + off = (a : Int)) (k : XW O ce se nL p l e R s m args below meth c Q a L S N fi fr ai al) : XW O ce se nL p l e R s m args below meth c Q pc L S N fi fr ai al := by
  subst hn
  rw [Nat.add_sub_cancel_left] at hd
  exact fun α H locs ls hO hl => lv_goto hx hb hd ht (k α H locs ls hO hl)
theorem xw_icmp (hx : p.tables.exec = Jvm.exec) (hb : c.code = cc) {cd : ClassFile.Cond} {off : Int} {a : Nat} {x y : Int} (hd : decode cc pc = .ok (.if_icmp cd off, np - pc)) (hn : np = pc + 3) (ht : (pc : Int) + off = (a : Int)) (k : brn cd x y (XW O ce se nL p l e R s m args below meth c Q a L S N fi fr ai al) (XW O ce se nL p l e R s m args below meth c Q np L S N fi fr ai al)) : XW O ce se nL p l e R s m args below meth c Q pc L (.inl y :: .inl x :: S) N fi fr ai al := by
  subst hn
  rw [Nat.add_sub_cancel_left] at hd
  intro α H locs ls hO hl
  cases cd <;> simp only [brn] at k
  · refine lv_icmp_eq hx hb hd ht (fun q => ?_) (fun q => ?_)
    · by_cases h : x = y
      · exact k.1 h α H locs ls hO hl
      · exact absurd (oi_inj (k.2 h).1 (k.2 h).2.1 q) h
    · have h : x ≠ y := fun z => q (by rw [z])
      exact (k.2 h).2.2 α H locs ls hO hl
  · refine lv_icmp_ne hx hb hd ht (fun q => ?_) (fun q => ?_)
    · have h : x ≠ y := fun z => q (by rw [z])
      exact (k.1 h).2.2 α H locs ls hO hl
    · by_cases h : x = y
      · exact k.2 h α H locs ls hO hl
      · exact absurd (by first | exact oi_inj (k.1 h).1 (k.1 h).2.1 (Classical.not_not.mp q) | exact oi_inj (k.1 h).1 (k.1 h).2.1 q) h
  · exact lv_icmp_lt hx hb hd ht (fun q => k.2.1 ((oi_lt k.1.1 k.1.2).mp q) α H locs ls hO hl) (fun q => k.2.2 (fun z => q ((oi_lt k.1.1 k.1.2).mpr z)) α H locs ls hO hl)
  · exact lv_icmp_ge hx hb hd ht (fun q => k.2.1 ((oi_le k.1.2 k.1.1).mp q) α H locs ls hO hl) (fun q => k.2.2 (fun z => q ((oi_le k.1.2 k.1.1).mpr z)) α H locs ls hO hl)
  · exact lv_icmp_gt hx hb hd ht (fun q => k.2.1 ((oi_lt k.1.2 k.1.1).mp q) α H locs ls hO hl) (fun q => k.2.2 (fun z => q ((oi_lt k.1.2 k.1.1).mpr z)) α H locs ls hO hl)
  · exact lv_icmp_le hx hb hd ht (fun q => k.2.1 ((oi_le k.1.1 k.1.2).mp q) α H locs ls hO hl) (fun q => k.2.2 (fun z => q ((oi_le k.1.1 k.1.2).mpr z)) α H locs ls hO hl)
theorem xw_if (hx : p.tables.exec = Jvm.exec) (hb : c.code = cc) {cd : ClassFile.Cond} {off : Int} {a : Nat} {x : Int} (hd : decode cc pc = .ok (.ifCond cd off, np - pc)) (hn : np = pc + 3) (ht : (pc : Int) + off = (a : Int)) (k : brn cd x 0 (XW O ce se nL p l e R s m args below meth c Q a L S N fi fr ai al) (XW O ce se nL p l e R s m args below meth c Q np L S N fi fr ai al)) : XW O ce se nL p l e R s m args below meth c Q pc L (.inl x :: S) N fi fr ai al := by
  subst hn
  rw [Nat.add_sub_cancel_left] at hd
  intro α H locs ls hO hl
  cases cd <;> simp only [brn] at k
  · refine lv_if_eq hx hb hd ht (fun q => ?_) (fun q => ?_)
    · by_cases h : x = 0
      · exact k.1 h α H locs ls hO hl
      · exact absurd (oi_inj (k.2 h).1 (k.2 h).2.1 q) h
    · have h : x ≠ 0 := fun z => q (by rw [z]; rfl)
      exact (k.2 h).2.2 α H locs ls hO hl
  · refine lv_if_ne hx hb hd ht (fun q => ?_) (fun q => ?_)
    · have h : x ≠ 0 := fun z => q (by rw [z]; rfl)
      exact (k.1 h).2.2 α H locs ls hO hl
    · by_cases h : x = 0
      · exact k.2 h α H locs ls hO hl
      · exact absurd (by first | exact oi_inj (k.1 h).1 (k.1 h).2.1 (Classical.not_not.mp q) | exact oi_inj (k.1 h).1 (k.1 h).2.1 q) h
  · exact lv_if_lt hx hb hd ht (fun q => k.2.1 ((oi_lt k.1.1 k.1.2).mp q) α H locs ls hO hl) (fun q => k.2.2 (fun z => q ((oi_lt k.1.1 k.1.2).mpr z)) α H locs ls hO hl)
  · exact lv_if_ge hx hb hd ht (fun q => k.2.1 ((oi_le k.1.2 k.1.1).mp q) α H locs ls hO hl) (fun q => k.2.2 (fun z => q ((oi_le k.1.2 k.1.1).mpr z)) α H locs ls hO hl)
  · exact lv_if_gt hx hb hd ht (fun q => k.2.1 ((oi_lt k.1.2 k.1.1).mp q) α H locs ls hO hl) (fun q => k.2.2 (fun z => q ((oi_lt k.1.2 k.1.1).mpr z)) α H locs ls hO hl)
  · exact lv_if_le hx hb hd ht (fun q => k.2.1 ((oi_le k.1.1 k.1.2).mp q) α H locs ls hO hl) (fun q => k.2.2 (fun z => q ((oi_le k.1.1 k.1.2).mpr z)) α H locs ls hO hl)
theorem xw_ifnull (hx : p.tables.exec = Jvm.exec) (hb : c.code = cc) {off : Int} {a : Nat} {r : Option Nat} (hd : decode cc pc = .ok (.ifnull off, np - pc)) (hn : np = pc + 3) (ht : (pc : Int) + off = (a : Int)) (k : (r = none → XW O ce se nL p l e R s m args below meth c Q a L S N fi fr ai al) ∧ (r ≠ none → XW O ce se nL p l e R s m args below meth c Q np L S N fi fr ai al)) : XW O ce se nL p l e R s m args below meth c Q pc L (.inr (.inl r) :: S) N fi fr ai al := by
  subst hn
  rw [Nat.add_sub_cancel_left] at hd
  intro α H locs ls hO hl
  cases r with
  | none => exact lv_ifnullN hx hb hd ht (k.1 rfl α H locs ls hO hl)
  | some o => exact lv_ifnull hx hb hd (k.2 (by simp) α H locs ls hO hl)
theorem xw_ifnonnull (hx : p.tables.exec = Jvm.exec) (hb : c.code = cc) {off : Int} {a : Nat} {r : Option Nat} (hd : decode cc pc = .ok (.ifnonnull off, np - pc)) (hn : np = pc + 3) (ht : (pc : Int) + off = (a : Int)) (k : (r ≠ none → XW O ce se nL p l e R s m args below meth c Q a L S N fi fr ai al) ∧ (r = none → XW O ce se nL p l e R s m args below meth c Q np L S N fi fr ai al)) : XW O ce se nL p l e R s m args below meth c Q pc L (.inr (.inl r) :: S) N fi fr ai al := by
  subst hn
  rw [Nat.add_sub_cancel_left] at hd
  intro α H locs ls hO hl
  cases r with
  | none => exact lv_ifnonnullN hx hb hd (k.2 rfl α H locs ls hO hl)
  | some o => exact lv_ifnonnull hx hb hd ht (k.1 (by simp) α H locs ls hO hl)
theorem tsw_at {f : Nat → Prop} {z : Int} : ∀ (l : List Nat) (k : Int) (j t : Nat), tsw f z k l → l[j]? = some t → z = k + j → f t
  | [], _, _, _, _, h, _ => by simp at h
  | u :: l, k, 0, t, h, hj, hz => by
    have : u = t := by simpa using hj
    rw [← this]; exact h.1 (by omega)
  | u :: l, k, j + 1, t, h, hj, hz => tsw_at l (k + 1) j t h.2 (by simpa using hj) (by omega)
theorem xw_tableswitch (hx : p.tables.exec = Jvm.exec) (hb : c.code = cc) {dflt lo hi : Int} {offs : Array Int} {a : Nat} {tl : List Nat} {z : Int} (hd : decode cc pc = .ok (.tableswitch dflt lo hi offs, np - pc)) (ht : (pc : Int) + dflt = (a : Int)) (hl1 : (hi : Int) < lo + tl.length) (hs : offs.toList.map (fun o => (pc : Int) + o) = tl.map (fun t : Nat => (t : Int)))
    (k : rg z ∧ ((z < lo ∨ hi < z) → XW O ce se nL p l e R s m args below meth c Q a L S N fi fr ai al) ∧ tsw (fun t => XW O ce se nL p l e R s m args below meth c Q t L S N fi fr ai al) z lo tl) : XW O ce se nL p l e R s m args below meth c Q pc L (.inl z :: S) N fi fr ai al := by
  intro α H locs ls hO hl
  by_cases h : z < lo ∨ hi < z
  · exact lv_tableOut hx hb hd (by rw [oi_toInt k.1]; exact h) ht (k.2.1 h α H locs ls hO hl)
  · have hj : (z - lo).toNat < tl.length := by omega
    have hlen : offs.toList.length = tl.length := by have := congrArg List.length hs; simpa using this
    have hj2 : (z - lo).toNat < offs.toList.length := by omega
    have e1 := congrArg (fun q : List Int => q[(z - lo).toNat]?) hs
    simp only [List.getElem?_map, List.getElem?_eq_getElem hj, List.getElem?_eq_getElem hj2, Option.map_some, Option.some.injEq] at e1
    have h3 := tsw_at tl lo (z - lo).toNat (tl[(z - lo).toNat]) k.2.2 (List.getElem?_eq_getElem hj) (by omega)
    exact lv_tableIn hx hb hd (off := offs.toList[(z - lo).toNat]) (by rw [oi_toInt k.1]; omega) (by rw [oi_toInt k.1]; omega) (by rw [oi_toInt k.1, ← Array.getElem?_toList]; exact List.getElem?_eq_getElem hj2) e1 (h3 α H locs ls hO hl)
theorem lsw_at {f : Nat → Prop} {z : Int} {pc : Nat} {d : Int} {a : Nat} (hd : (pc : Int) + d = a) : ∀ (ps : List (Int × Int)) (l : List Nat), ps.map (fun o => (pc : Int) + o.2) = l.map (fun t : Nat => (t : Int)) → lsw f z a ps l → ∃ t : Nat, (pc : Int) + Op.lookupswitch.offset ps d z = t ∧ f t
  | [], [], _, h => ⟨a, by simpa [Op.lookupswitch.offset] using hd, h⟩
  | [], _ :: _, hs, _ => by simp at hs
  | _ :: _, [], hs, _ => by simp at hs
  | q :: ps, t :: l, hs, h => by
    simp only [List.map_cons, List.cons.injEq] at hs
    by_cases hz : z = q.1
    · exact ⟨t, by simpa [Op.lookupswitch.offset, hz] using hs.1, h.1 hz⟩
    · obtain ⟨t', h1, h2⟩ := lsw_at hd ps l hs.2 (h.2 hz)
      refine ⟨t', ?_, h2⟩
      rw [← h1]
      have hz' : ¬ q.1 = z := fun w => hz w.symm
      simp [Op.lookupswitch.offset, hz, hz']
theorem xw_lookupswitch (hx : p.tables.exec = Jvm.exec) (hb : c.code = cc) {dflt : Int} {ps : Array (Int × Int)} {a : Nat} {tl : List Nat} {z : Int} (hd : decode cc pc = .ok (.lookupswitch dflt ps, np - pc)) (ht : (pc : Int) + dflt = (a : Int)) (hp : (ps.toList.zip (ps.toList.drop 1)).all (fun (a, next) => a.1 < next.1) = true) (hs : ps.toList.map (fun o => (pc : Int) + o.2) = tl.map (fun t : Nat => (t : Int)))
    (k : rg z ∧ lsw (fun t => XW O ce se nL p l e R s m args below meth c Q t L S N fi fr ai al) z a ps.toList tl) : XW O ce se nL p l e R s m args below meth c Q pc L (.inl z :: S) N fi fr ai al := by
  intro α H locs ls hO hl
  obtain ⟨t, h1, h2⟩ := lsw_at ht ps.toList tl hs k.2
  exact lv_lookup hx hb hd hp (by rw [oi_toInt k.1]) h1 (h2 α H locs ls hO hl)
end Arms2
