/-! rows of rows; the JDK's members that are one step -/
theorem mu_outer (c : ClassId) (N h0 : Nat) : ∀ i : Nat, Jvm.Free.Multi.outerC c N h0 i = arrV c N (fun j => if j < i then .ref (h0 + 1 + j) else .null)
  | 0 => by
    show ({ cls := c, slots := Array.replicate N .null, vm := .none } : Cell) = _
    rw [arrV_new]
    exact congrArg (arrV c N) (funext fun j => by simp)
  | i + 1 => by
    show (Jvm.Free.Multi.outerC c N h0 i).setSlot i (.ref (h0 + 1 + i)) = _
    rw [mu_outer c N h0 i, arrV_store]
    refine congrArg (arrV c N) (funext fun j => ?_)
    unfold updV
    by_cases e : j = i
    · subst e
      rw [if_pos rfl, if_pos (show j < j + 1 by omega)]
    · rw [if_neg e]
      show (if j < i then Value.ref (h0 + 1 + j) else Value.null) = _
      by_cases h : j < i
      · rw [if_pos h, if_pos (show j < i + 1 by omega)]
      · rw [if_neg h, if_neg (show ¬ j < i + 1 by omega)]
theorem arrV_ext (cl : ClassId) (n : Nat) {f g : Nat → Value} (hfg : ∀ j, j < n → f j = g j) : arrV cl n f = arrV cl n g := by
  unfold arrV
  congr 1
  apply Array.ext (by simp)
  intro j h1 h2
  simp only [Array.getElem_ofFn]
  exact hfg j (by simpa using h1)
theorem gridok_spec {md N n k : Nat} (h : gridok md N n k = true) : ∀ j, j < n → shp md (N + 1 + j) = (0, k) := by
  intro j hj
  have h1 := List.all_eq_true.mp h j (List.mem_range.mpr hj)
  rw [Bool.and_eq_true] at h1
  exact Prod.ext (Nat.eq_of_beq_eq_true h1.1) (Nat.eq_of_beq_eq_true h1.2)
section Mna
variable {md : Nat} {G : gG} {sz0 sb scL : Nat} {scX : Nat → Int} {N0 Nf : Nat} {nL : Nat} {p : Program} {l : Launch} {e : Env} {R : Room} {s : State} {m : MethodId} {args : Array Value} {below : List Frame} {meth : Method} {c : Code} {Q : State → Prop}
variable {cc : ByteArray} {pc np : Nat} {L : List (Option av)} {S S' : List av} {N : Nat} {fi : tF} {fr : tR} {ai : tF} {al : tL} {ce se : Nat → Nat}
theorem xn_mna (hx : p.tables.exec = Jvm.exec) (hb : c.code = cc) {own : String} {idx n k0 : Nat} {z w : Int} (hown : s.vm.findClass own = some m.cls) (hT : TK G s) (hcl : (Cond.classLink own idx "[[I").before args s = true) (hov : (Cond.arrayOver (.array .int)).before args s = true) (harr : (Cond.arrayClass .int).before args s = true) (hNf : Nf < 999999) (hRc : Nf - N0 ≤ R.cells) (hRs : ssum md Nf - ssum md N0 ≤ R.slots)
    (hsm : n ≤ 10000000 ∧ k0 ≤ 10000000) (hd : decode cc pc = .ok (.multianewarray idx 2, np - pc)) (hn : np = pc + 4) (hK : shp md N = (3, n)) (hg : ∀ j, j < n → shp md (N + 1 + j) = (0, k0)) (hN : z = (n : Int) ∧ w = (k0 : Int) ∧ N + 1 + n ≤ Nf)
    (k : XW (OO md G sz0 sb scL scX s N0 Nf) (fun N => N - N0) (fun N => ssum md N - ssum md N0) nL p l e R s m args below meth c Q np L (.inr (.inl (some N)) :: S) (N + 1 + n) fi fr (clrR ai N n 0) al) : XW (OO md G sz0 sb scL scX s N0 Nf) (fun N => N - N0) (fun N => ssum md N - ssum md N0) nL p l e R s m args below meth c Q pc L (.inl w :: .inl z :: S) N fi fr ai al := by
  subst hn
  rw [Nat.add_sub_cancel_left] at hd
  obtain ⟨rfl, rfl, hN⟩ := hN
  intro α H locs ls hO hl
  obtain ⟨hα, hN0, -, hsz, hW, hS⟩ := hO
  have hz := hsz (by rw [hK]; show (3 : Nat) ≠ 8; decide)
  have hrn : rg (n : Int) := ⟨by omega, by omega⟩
  have hrk : rg (k0 : Int) := ⟨by omega, by omega⟩
  have en : (Int32.ofInt (n : Int)).toNatClampNeg = n := by show (Int32.ofInt _).toInt.toNat = _; rw [oi_toInt hrn]; rfl
  have ek : (Int32.ofInt (k0 : Int)).toNatClampNeg = k0 := by show (Int32.ofInt _).toInt.toNat = _; rw [oi_toInt hrk]; rfl
  have hs1 : ssum md (N + 1 + n) = ssum md N + n + n * k0 := by
    rw [ssum_rows md (N + 1) k0 n (fun j hj => by rw [hg j hj])]
    show ssum md N + (shp md N).2 + _ = _
    rw [hK]
  have hs2 := ssum_mono md hN
  have hs3 := ssum_mono md hN0
  intro T hT1 Xs
  obtain ⟨vm₁, cA, comp, -, fA, fC, hO9, -, X', step⟩ := Xs.multianewarray2F hx hown (ty := .int) (index := idx) hcl hov harr (g := F0 m pc ls (.int (Int32.ofInt (k0 : Int)) :: .int (Int32.ofInt (n : Int)) :: S.map (cv α))) rfl (by rw [hb]; exact hd) rfl
    (fun q => by have := (oi_lt hrn rg0).mp q; omega) (fun q => by have := (oi_lt hrk rg0).mp q; omega) (by rw [en]; omega) (by rw [ek]; show k0 * 4 ≤ _; omega) (by rw [ek]; omega) rfl rfl (by rw [en]; show N - N0 + (1 + n) ≤ _; omega) (by rw [en, ek]; show ssum md N - ssum md N0 + (n + n * k0) ≤ _; omega)
  rw [en, ek] at X' step
  have ecA : cA = G.2.2 3 := Option.some.inj (fA.symm.trans (hT.2 3 _ rfl).2)
  have eco : comp = G.2.2 0 := Option.some.inj (fC.symm.trans (hT.2 0 _ rfl).2)
  subst ecA; subst eco
  generalize hF : Jvm.Free.Multi.fill (T.setVm vm₁) (G.2.2 3) (G.2.2 0) n k0 (defaultValue .int) n = F at X' step
  have hTh : (T.setVm vm₁).heap = H := hT1
  obtain ⟨f1, f2, -, -⟩ := Jvm.Free.Multi.fill_facts (T.setVm vm₁) (G.2.2 3) (G.2.2 0) n k0 (defaultValue .int) n
  rw [hF, hTh] at f1 f2
  have hold : ∀ x : Nat, x < H.size → F.heap[x]? = H[x]? := fun x hx => by
    have := Jvm.Free.Multi.fill_old (T.setVm vm₁) (G.2.2 3) (G.2.2 0) n k0 (defaultValue .int) (a := x) (by rw [hTh]; exact hx) n
    rw [hF, hTh] at this
    exact this
  have hrow : ∀ j : Nat, j < n → F.heap[H.size + 1 + j]? = some (arrV (G.2.2 0) k0 (fun _ => .int 0)) := fun j hj => by
    have := Jvm.Free.Multi.fill_inner (T.setVm vm₁) (G.2.2 3) (G.2.2 0) n k0 (defaultValue .int) n j hj
    rw [hF, hTh] at this
    rw [this]
    exact congrArg some (arrV_new _ _ _)
  rw [mu_outer] at f2
  have hW1 : Wd md G sz0 sb scL scX α (N + (1 + n)) fi fr (clrR ai N n 0) al s F.heap := by
    refine hW.grow hα (by omega) hz (by omega) (fun q hq => hold q hq) (fun i h1 h2 => ?_) (fun i hi k => ⟨rfl, rfl, by rw [clrR_at, if_neg (by omega)], rfl⟩)
    have hα2 : α i = sz0 + i := by rw [hα, aa_in (by omega)]
    by_cases ei : i = N
    · subst ei
      refine ⟨fun q => (by rw [hK] at q; cases q), fun q => (by rw [hK] at q; cases q), fun q => (by rw [hK] at q; cases q), fun q => ?_, fun a ha => (by rw [hK] at ha; simp only at ha; omega)⟩
      rw [hα2, ← hz, f2, hK]
      refine congrArg some (arrV_ext _ _ (fun j hj => ?_))
      rw [if_pos hj, hα, aa_in (by omega), hz]
      exact congrArg Value.ref (show sz0 + i + 1 + j = sz0 + (i + 1 + j) by simp only [Nat.add_assoc])
    · have hj : i = N + 1 + (i - (N + 1)) := by omega
      have hsh : shp md i = (0, k0) := by rw [hj]; exact hg _ (by omega)
      refine ⟨fun q => ?_, fun q => (by rw [hsh] at q; cases q), fun q => (by rw [hsh] at q; cases q), fun q => (by rw [hsh] at q; cases q), fun a ha => (by rw [hsh] at ha; simp only at ha; omega)⟩
      have hr := hrow (i - (N + 1)) (by omega)
      rw [hα2, show sz0 + i = H.size + 1 + (i - (N + 1)) by omega, hr, hsh]
      refine congrArg some (arrV_ext _ _ (fun j hj => ?_))
      rw [clrR_at, if_pos (by omega)]; rfl
  have hO1 : OO md G sz0 sb scL scX s N0 Nf α (N + 1 + n) fi fr (clrR ai N n 0) al F.heap locs := ⟨hα, by omega, hN, fun _ => by rw [f1]; omega, by rw [Nat.add_assoc]; exact hW1, hS.grow (by omega) (fun q hq => hold q hq)⟩
  have f3 : cv α (.inr (.inl (some N))) = .ref T.heap.size := by show Value.ref (α N) = _; rw [hα, aa_in (by omega), hT1, hz]
  have k1 := k α F.heap locs ls hO1 hl
  rw [List.map_cons, f3] at k1
  obtain ⟨t, a1, b1⟩ := k1 F rfl (by
    have g1 : N + 1 + n - N0 = N - N0 + 1 + n := by omega
    have g2 : ssum md (N + 1 + n) - ssum md N0 = ssum md N - ssum md N0 + n + n * k0 := by omega
    show Stand p l e R s m args below meth c F locs (N + 1 + n - N0) (ssum md (N + 1 + n) - ssum md N0)
    rw [g1, g2]; exact X')
  exact ⟨t, step t a1, b1⟩
theorem wsum_cat (α : Nat → Nat) : ∀ S : List av, ((S.map (cv α)).map fun v => v.category).sum = wsum S
  | [] => rfl
  | .inl z :: t => by simp only [List.map_cons, List.sum_cons, wsum_cat α t, wsum]; rfl
  | .inr (.inl none) :: t => by simp only [List.map_cons, List.sum_cons, wsum_cat α t, wsum]; rfl
  | .inr (.inl (some _)) :: t => by simp only [List.map_cons, List.sum_cons, wsum_cat α t, wsum]; rfl
  | .inr (.inr _) :: t => by simp only [List.map_cons, List.sum_cons, wsum_cat α t, wsum]; rfl
theorem xn_max {O : (Nat → Nat) → Nat → tF → tR → tF → tL → Heap → List Loc → Prop} (hx : p.tables.exec = Jvm.exec) (hb : c.code = cc) (hml : c.maxLocals = nL) {own : String} {idx : Nat} {x y : Int} (hown : s.vm.findClass own = some m.cls) (hlink : (Cond.methodLink own idx Lib.Math.max.name).before args s = true) (hstat : (Cond.static Lib.Math.max.name).before args s = true) (hini : (Cond.initialized "java/lang/Math").before args s = true) (hcode : (Cond.code Lib.Math.max.name Lib.Math.max.code 2 (some .int)).before args s = true)
    (hfr : 1 ≤ R.frames) (hlo : 21 ≤ R.locals) (hce : ∀ α H locs, O α N fi fr ai al H locs → ce N ≤ R.cells ∧ se N ≤ R.slots) (hw : wsum S ≤ 8) (hr : rg x ∧ rg y) (hd : decode cc pc = .ok (.invokestatic idx, np - pc)) (hn : np = pc + 3)
    (k : XW O ce se nL p l e R s m args below meth c Q np L (.inl (if x < y then y else x) :: S) N fi fr ai al) : XW O ce se nL p l e R s m args below meth c Q pc L (.inl y :: .inl x :: S) N fi fr ai al := by
  subst hn
  rw [Nat.add_sub_cancel_left] at hd
  intro α H locs ls hO hl
  have k1 := k α H locs ls hO hl
  have hcs := hce α H locs hO
  refine va_mmax hx hb (by rw [hl.1]; exact hml) hown hlink hstat hini hcode hfr (by rw [wsum_cat]; omega) hcs.1 hcs.2 hd ?_
  have : (if Int32.ofInt x < Int32.ofInt y then Int32.ofInt y else Int32.ofInt x) = Int32.ofInt (if x < y then y else x) := by
    by_cases h : x < y
    · rw [if_pos ((oi_lt hr.1 hr.2).mpr h), if_pos h]
    · rw [if_neg (fun q => h ((oi_lt hr.1 hr.2).mp q)), if_neg h]
  rw [this]
  exact k1
theorem xn_min {O : (Nat → Nat) → Nat → tF → tR → tF → tL → Heap → List Loc → Prop} (hx : p.tables.exec = Jvm.exec) (hb : c.code = cc) (hml : c.maxLocals = nL) {own : String} {idx : Nat} {x y : Int} (hown : s.vm.findClass own = some m.cls) (hlink : (Cond.methodLink own idx Lib.Math.min.name).before args s = true) (hstat : (Cond.static Lib.Math.min.name).before args s = true) (hini : (Cond.initialized "java/lang/Math").before args s = true) (hcode : (Cond.code Lib.Math.min.name Lib.Math.min.code 2 (some .int)).before args s = true)
    (hfr : 1 ≤ R.frames) (hlo : 21 ≤ R.locals) (hce : ∀ α H locs, O α N fi fr ai al H locs → ce N ≤ R.cells ∧ se N ≤ R.slots) (hw : wsum S ≤ 8) (hr : rg x ∧ rg y) (hd : decode cc pc = .ok (.invokestatic idx, np - pc)) (hn : np = pc + 3)
    (k : XW O ce se nL p l e R s m args below meth c Q np L (.inl (if x < y then x else y) :: S) N fi fr ai al) : XW O ce se nL p l e R s m args below meth c Q pc L (.inl y :: .inl x :: S) N fi fr ai al := by
  subst hn
  rw [Nat.add_sub_cancel_left] at hd
  intro α H locs ls hO hl
  have k1 := k α H locs ls hO hl
  have hcs := hce α H locs hO
  refine va_mmin hx hb (by rw [hl.1]; exact hml) hown hlink hstat hini hcode hfr (by rw [wsum_cat]; omega) hcs.1 hcs.2 hd ?_
  have : (if Int32.ofInt y < Int32.ofInt x then Int32.ofInt y else Int32.ofInt x) = Int32.ofInt (if x < y then x else y) := by
    by_cases h : y < x
    · rw [if_pos ((oi_lt hr.2 hr.1).mpr h), if_neg (by omega)]
    · rw [if_neg (fun q => h ((oi_lt hr.2 hr.1).mp q))]
      by_cases h2 : x < y
      · rw [if_pos h2]
      · rw [if_neg h2, show x = y by omega]
  rw [this]
  exact k1
theorem xn_obj {O : (Nat → Nat) → Nat → tF → tR → tF → tL → Heap → List Loc → Prop} (hx : p.tables.exec = Jvm.exec) (hb : c.code = cc) (hml : c.maxLocals = nL) {own : String} {idx o : Nat} (hown : s.vm.findClass own = some m.cls) (hlink : (Cond.methodLink own idx Lib.objectInit).before args s = true) (hinst : (Cond.instanceMethod Lib.objectInit).before args s = true) (hcode : (Cond.code Lib.objectInit ⟨#[0xb1]⟩ 1 none).before args s = true)
    (hfr : 1 ≤ R.frames) (hlo : 21 ≤ R.locals) (hw : wsum S ≤ 8) (hd : decode cc pc = .ok (.invokespecial idx, np - pc)) (hn : np = pc + 3)
    (k : XW O ce se nL p l e R s m args below meth c Q np L S N fi fr ai al) : XW O ce se nL p l e R s m args below meth c Q pc L (.inr (.inl (some o)) :: S) N fi fr ai al := by
  subst hn
  rw [Nat.add_sub_cancel_left] at hd
  intro α H locs ls hO hl
  exact W.objInit hx hb hown hlink hinst hcode rfl (by rw [hml]; exact hl.1) rfl hd hfr (by show 2 * 0 + _ + 12 ≤ _; rw [wsum_cat]; omega) (k α H locs ls hO hl)
theorem cpR_at (f : tF) (a sp b dp n i j : Nat) : cpR f a sp b dp n i j = if i = b ∧ dp ≤ j ∧ j < dp + n then f a (sp + (j - dp)) else f i j := by
  unfold cpR
  by_cases h : i = b
  · by_cases h1 : dp ≤ j
    · by_cases h2 : j < dp + n
      · rw [if_pos ⟨h, h1, h2⟩, h, Nat.beq_refl, Nat.ble_eq_true_of_le h1, Nat.ble_eq_true_of_le (show j + 1 ≤ dp + n by omega)]; rfl
      · have : Nat.ble (j + 1) (dp + n) = false := (Bool.not_eq_true _).mp (fun z => h2 (by have := Nat.le_of_ble_eq_true z; omega))
        rw [if_neg (fun z => h2 z.2.2), this, Bool.and_false, Bool.and_false]; rfl
    · have : Nat.ble dp j = false := (Bool.not_eq_true _).mp (fun z => h1 (Nat.le_of_ble_eq_true z))
      rw [if_neg (fun z => h1 z.2.1), this, Bool.false_and, Bool.and_false]; rfl
  · have : Nat.beq i b = false := (Bool.not_eq_true _).mp (fun z => h (Nat.eq_of_beq_eq_true z))
    rw [if_neg (fun z => h z.1), this]; rfl
end Mna
