section Cpy
variable {md : Nat} {G : gG} {sz0 sb scL : Nat} {scX : Nat → Int} {N0 Nf : Nat} {nL : Nat} {p : Program} {l : Launch} {e : Env} {R : Room} {s : State} {m : MethodId} {args : Array Value} {below : List Frame} {meth : Method} {c : Code} {Q : State → Prop}
variable {cc : ByteArray} {pc np : Nat} {L : List (Option av)} {S S' : List av} {N : Nat} {fi : tF} {fr : tR} {ai : tF} {al : tL} {ce se : Nat → Nat}
theorem xn_copy (hx : p.tables.exec = Jvm.exec) (hb : c.code = cc) (hml : c.maxLocals = nL) {own : String} {idx a b : Nat} {n dp sp : Int} (hown : s.vm.findClass own = some m.cls) (hT : TK G s) (hlink : (Cond.methodLink own idx arraycopyName).before args s = true) (hnat : (Cond.native arraycopyName).before args s = true) (hstat : (Cond.static arraycopyName).before args s = true) (hini : (Cond.initialized "java/lang/System").before args s = true)
    (hfr : 1 ≤ R.frames) (hlo : 40 ≤ R.locals) (hw : wsum S ≤ 8) (hKa : isK md a 0 N = true) (hKb : isK md b 0 N = true) (hr : 0 ≤ n ∧ 0 ≤ sp ∧ 0 ≤ dp ∧ sp + n ≤ ((shp md a).2 : Int) ∧ dp + n ≤ ((shp md b).2 : Int)) (hd : decode cc pc = .ok (.invokestatic idx, np - pc)) (hn : np = pc + 3)
    (k : XW (OO md G sz0 sb scL scX s N0 Nf) ce se nL p l e R s m args below meth c Q np L S N fi fr (cpR ai a sp.toNat b dp.toNat n.toNat) al) : XW (OO md G sz0 sb scL scX s N0 Nf) ce se nL p l e R s m args below meth c Q pc L (.inl n :: .inl dp :: .inr (.inl (some b)) :: .inl sp :: .inr (.inl (some a)) :: S) N fi fr ai al := by
  subst hn
  rw [Nat.add_sub_cancel_left] at hd
  obtain ⟨r1, r2, r3, r4, r5⟩ := hr
  have la := shp_small md a
  have lb := shp_small md b
  have hrn : rg n := ⟨by omega, by omega⟩
  have hrs : rg sp := ⟨by omega, by omega⟩
  have hrd : rg dp := ⟨by omega, by omega⟩
  have hneg : ∀ {z : Int}, rg z → 0 ≤ z → ¬ Int32.ofInt z < 0 := fun hz h0 q => by have := (oi_lt hz rg0).mp q; omega
  have htn : ∀ {z : Int}, rg z → (Int32.ofInt z).toNatClampNeg = z.toNat := fun hz => by show (Int32.ofInt _).toInt.toNat = _; rw [oi_toInt hz]
  intro α H locs ls hO hl
  have hW := hO.2.2.2.2.1
  obtain ⟨hoa, hsa⟩ := isK_spec hKa hW.2.2.2.2.1
  obtain ⟨hob, hsb⟩ := isK_spec hKb hW.2.2.2.2.1
  intro T hT1 X
  have hc0 := (hW.1 a hoa).1 hsa
  have hc1 := (hW.1 b hob).1 hsb
  obtain ⟨-, k0, hk0, cm0, hkk0⟩ := (hT.2 0 _ rfl).1 (shp md a).2 (fun j => .int (Int32.ofInt (ai a j)))
  obtain ⟨-, k1, hk1, cm1, hkk1⟩ := (hT.2 0 _ rfl).1 (shp md b).2 (fun j => .int (Int32.ofInt (ai b j)))
  obtain ⟨vm', X', step⟩ := X.arraycopy hx hown hlink hnat hstat hini (src := α a) (dst := α b) (srcPos := Int32.ofInt sp) (destPos := Int32.ofInt dp) (n := Int32.ofInt n) (by rw [hT1]; exact hc0) (by rw [hT1]; exact hc1)
    (fun _ h => by cases h) (fun _ h => by cases h) (fun h => by cases h) (fun h => by cases h) hk0 hk1 hkk0 hkk1 rfl (hneg hrs r2) (hneg hrd r3) (hneg hrn r1)
    (by rw [oi_toInt hrs, oi_toInt hrn, arrV_size]; omega)
    (by rw [oi_toInt hrd, oi_toInt hrn, arrV_size]; omega)
    (fun vm₁ _ i hi => by
      rw [htn hrn] at hi
      have e9 : (arrV (G.2.2 0) (shp md a).2 (fun j => .int (Int32.ofInt (ai a j)))).slots.getD ((Int32.ofInt sp).toNatClampNeg + i) .null = .int (Int32.ofInt (ai a (sp.toNat + i))) := by
        rw [htn hrs, Array.getD_eq_getD_getElem?, arrV_read _ _ (by omega)]
        rfl
      refine ⟨?_, ?_⟩
      · rw [e9]; rfl
      · rw [e9]; exact trivial)
    (g := F0 m pc ls (.int (Int32.ofInt n) :: .int (Int32.ofInt dp) :: .ref (α b) :: .int (Int32.ofInt sp) :: .ref (α a) :: S.map (cv α))) rfl (by rw [hml]; exact hl.1) (rest := S.map (cv α)) rfl (by rw [hb]; exact hd) hfr (by show 2 * 0 + _ + _ ≤ _; rw [wsum_cat]; show 0 + wsum S + (5 + 2 + 11) ≤ _; omega)
  have e1 : copied (arrV (G.2.2 0) (shp md a).2 (fun j => .int (Int32.ofInt (ai a j)))) (arrV (G.2.2 0) (shp md b).2 (fun j => .int (Int32.ofInt (ai b j)))) (Int32.ofInt sp) (Int32.ofInt dp) (Int32.ofInt n) = arrV (G.2.2 0) (shp md b).2 (fun j => .int (Int32.ofInt (cpR ai a sp.toNat b dp.toNat n.toNat b j))) := by
    have h4 : (Int32.ofInt sp).toNatClampNeg + (Int32.ofInt n).toNatClampNeg ≤ (shp md a).2 := by rw [htn hrs, htn hrn]; omega
    refine (va_copied (fun z : Int => Value.int (Int32.ofInt z)) (G.2.2 0) (G.2.2 0) (fun j => ai a j) (fun j => ai b j) h4).trans ?_
    refine congrArg (arrV _ _) (funext fun j => ?_)
    rw [cpR_at, htn hrs, htn hrd, htn hrn]
    unfold va_cpy
    by_cases hj : dp.toNat ≤ j ∧ j < dp.toNat + n.toNat
    · rw [if_pos hj, if_pos ⟨rfl, hj⟩]
    · rw [if_neg hj, if_neg (fun q => hj q.2)]
  rw [e1] at X' step
  have hr : realC md b := Or.inl (by omega)
  have hbl := cok_lt (hW.1 b hob) hr
  have hheap : ((T.setVm vm').setCell (α b) (arrV (G.2.2 0) (shp md b).2 (fun j => .int (Int32.ofInt (cpR ai a sp.toNat b dp.toNat n.toNat b j))))).heap = H.setIfInBounds (α b) (arrV (G.2.2 0) (shp md b).2 (fun j => .int (Int32.ofInt (cpR ai a sp.toNat b dp.toNat n.toNat b j)))) := by rw [← hT1]; rfl
  have oq : ∀ q : Nat, q ≠ α b → (H.setIfInBounds (α b) (arrV (G.2.2 0) (shp md b).2 (fun j => .int (Int32.ofInt (cpR ai a sp.toNat b dp.toNat n.toNat b j)))))[q]? = H[q]? := fun q hq => by simp [Array.getElem?_setIfInBounds, Ne.symm hq]
  have hW1 : Wd md G sz0 sb scL scX α N fi fr (cpR ai a sp.toNat b dp.toNat n.toNat) al s (H.setIfInBounds (α b) (arrV (G.2.2 0) (shp md b).2 (fun j => .int (Int32.ofInt (cpR ai a sp.toNat b dp.toNat n.toNat b j))))) := by
    refine hW.set hob hr (by simp) oq ⟨fun _ => by simp [Array.getElem?_setIfInBounds, hbl], fun q => by omega, fun q => by omega, fun q => by omega, fun q hq => by omega⟩ (fun i hi j => ⟨rfl, rfl, ?_, rfl⟩)
    rw [cpR_at, if_neg (fun q => hi q.1)]
  have hS := hO.2.2.2.2.2
  obtain ⟨t, a1, b1⟩ := k α _ _ ls ⟨hO.1, hO.2.1, hO.2.2.1, by simp; exact hO.2.2.2.1, hW1, by simp; exact hS.1, fun q g1 g2 => (by
      rw [oq q (fun e => g2 (by rw [e]; exact hO.own hob hr))]
      exact hS.2.1 q g1 g2), fun q hq => (by
      rcases List.mem_append.mp hq with h | h
      · exact hS.2.2 q h
      · obtain ⟨z, -, hz⟩ := List.mem_map.mp h
        rw [← hz]
        exact hO.own hob hr)⟩ hl _ hheap X'
  exact ⟨t, step t a1, b1⟩
end Cpy
