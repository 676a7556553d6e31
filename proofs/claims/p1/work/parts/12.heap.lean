/-! fields and rows of numbers, written and read -/
section Heap2
variable {md : Nat} {G : gG} {sz0 sb scL : Nat} {scX : Nat → Int} {N0 Nf : Nat} {ce se : Nat → Nat} {nL : Nat} {p : Program} {l : Launch} {e : Env} {R : Room} {s : State} {m : MethodId} {args : Array Value} {below : List Frame} {meth : Method} {c : Code} {Q : State → Prop}
variable {cc : ByteArray} {pc np : Nat} {L : List (Option av)} {S S' : List av} {N : Nat} {fi : tF} {fr : tR} {ai : tF} {al : tL}
theorem OO.put {α : Nat → Nat} {H H1 : Heap} {locs : List Loc} {fi' : tF} {fr' : tR} {ai' : tF} {al' : tL} {o x : Nat} (hO : OO md G sz0 sb scL scX s N0 Nf α N fi fr ai al H locs) (ho : o < N) (hr : realC md o) (hz : H1.size = H.size) (hq : ∀ q, q ≠ α o → H1[q]? = H[q]?)
    (hn : cok md G α fi' fr' ai' al' o H1) (hk : ∀ i, i ≠ o → ∀ k, fi' i k = fi i k ∧ fr' i k = fr i k ∧ ai' i k = ai i k ∧ al' i k = al i k) : OO md G sz0 sb scL scX s N0 Nf α N fi' fr' ai' al' H1 (locs ++ [⟨α o, x⟩]) :=
  ⟨hO.1, hO.2.1, hO.2.2.1, by rw [hz]; exact hO.2.2.2.1, hO.2.2.2.2.1.set ho hr hz hq hn hk, hO.2.2.2.2.2.put hz hq (hO.own ho hr)⟩
theorem xh_put0 (hx : p.tables.exec = Jvm.exec) (hb : c.code = cc) {own : String} {a b idx : Nat} {C : String} {T : u_T} {n o : Nat} {v : av} {fi' : tF} {fr' : tR} (hts : ∀ w ∈ gw, w.before args s = true) (hown : s.vm.findClass own = some m.cls) (hT : TK G s) (hc : classes[a]? = some (C, T, n)) (hb1 : b < n) (hn1 : ∀ i, (shp md i).1 = 10 + a → (shp md i).2 = n)
    (hlink : (Cond.fieldLink own idx (T b).1 (T b).2.1 (T b).2.2.1).before args s = true) (hfin : (T b).2.2.2 = false ∨ ((T b).2.2.2 = true ∧ meth.name = "<init>" ∧ (T b).1 = own)) (hnar : ∀ α, narrow (tyN a b) (cv α v) = cv α v) (hfit : ∀ α, fits (tyN a b) (cv α v) = true) (hd : decode cc pc = .ok (.putfield idx, np - pc)) (hn : np = pc + 3) (hK : isK md o (10 + a) N = true)
    (hv : ∀ α k, updV (fva α fi fr o a) b (cv α v) k = fva α fi' fr' o a k) (hk : ∀ i, i ≠ o → ∀ k, fi' i k = fi i k ∧ fr' i k = fr i k)
    (k : XW (OO md G sz0 sb scL scX s N0 Nf) ce se nL p l e R s m args below meth c Q np L S N fi' fr' ai al) : XW (OO md G sz0 sb scL scX s N0 Nf) ce se nL p l e R s m args below meth c Q pc L (v :: .inr (.inl (some o)) :: S) N fi fr ai al := by
  subst hn
  rw [Nat.add_sub_cancel_left] at hd
  intro α H locs ls hO hl
  have hW := hO.2.2.2.2.1
  obtain ⟨ho, hs⟩ := isK_spec hK hW.2.2.2.2.1
  have hr : realC md o := Or.inr (by omega)
  obtain ⟨cell, q1, q2, q3, q4⟩ := (hW.1 o ho).2.2.2.2 a hs
  have hap := va_apart (own := own) (D := (G.1, G.2.1)) hts (cl_in hc) (tyN a) (cl_ty hc) (cl_nm hc) hT hc
  obtain ⟨hSl, hfc, kC, hkC, hkind⟩ := hT.1 a _ hc
  obtain ⟨cf, kf, fi9, f, hi, hsl⟩ := hSl b hb1
  have hst := (u_facts hfc hkC (u_lays hts (cl_in hc) hb1) hi).1
  have q4' : ∀ k, k < n → cell.slots[G.2.1 a k]? = some (fva α fi fr o a k) := fun k hk => q4 k (by rw [hn1 o hs]; exact hk)
  have key : ∀ H1 : Heap, H1[α o]? = some (cell.setSlot f.slot (cv α v)) → H1.size = H.size → (∀ q, q ≠ α o → H1[q]? = H[q]?) → W p l e R s m args below meth c H1 (locs ++ [⟨α o, f.slot⟩]) (ce N) (se N) Q { (F0 m pc ls (cv α v :: .ref (α o) :: S.map (cv α))) with pc := pc + 3, stack := S.map (cv α) } := by
    intro H1 e1 e2 e3
    refine k α H1 _ ls (hO.put ho hr e2 e3 ?_ (fun i hi k => ⟨(hk i hi k).1, (hk i hi k).2, rfl, rfl⟩)) hl
    refine ⟨fun z => by omega, fun z => by omega, fun z => by omega, fun z => by omega, fun a' ha' => ?_⟩
    have : a' = a := by omega
    subst this
    rw [hsl] at e1
    refine t_OB.to (V := updV (fva α fi fr o a') b (cv α v)) ⟨_, e1, q2, q3, ?_⟩ (fun j _ => hv α j)
    rw [hn1 o hs]
    exact t_set q4' hap hb1 _
  rcases hfin with hf | ⟨hf, hin2, hdecl⟩
  · have hlay := hts _ (cl_in hc _ (u_in_lay hb1))
    unfold u_lay at hlay
    rw [if_neg (by rw [hf]; decide)] at hlay
    have h6 := u_store hfc hkC hkind hlay hi (cl_ty hc b hb1) (hnar α) (hfit α)
    exact W.putK hx hb (f := f) ⟨hown, hlink, ⟨_, _, _, hi⟩, hst⟩ (by rw [q2]; exact h6) q1 q3 (by rw [hsl]; exact k2_hasslot (q4' b hb1)) rfl rfl hd key
  · have hlay := hts _ (cl_in hc _ (u_in_lay hb1))
    unfold u_lay at hlay
    rw [if_pos hf] at hlay
    have hcf : m.cls = cf := by
      obtain ⟨_, _, c', _, _, _, -, -, hf', -, -, -, hown2, -⟩ := Cond.laysFinal_spec hlay
      have e1 : c' = cf := by have := hi.symm.trans hf'; simp at this; exact this.1.symm
      rw [hdecl] at hown2
      rw [← e1]; exact Option.some.inj (hown.symm.trans hown2)
    have h6 := u_fits hfc hkC hkind (Or.inr hlay) hi (cl_ty hc b hb1) (hnar α) (hfit α)
    exact W.putFinK hx hb hown hlink hi hst hcf hin2 (by rw [q2]; exact h6) q1 q3 (by rw [hsl]; exact k2_hasslot (q4' b hb1)) rfl rfl hd key
theorem fva_upI {α : Nat → Nat} {o a b : Nat} {z : Int} (hi : isI (tyN a b) = true) (k : Nat) : updV (fva α fi fr o a) b (cv α (.inl z)) k = fva α (up2 fi o b z) fr o a k := by
  unfold updV fva
  rw [up2_at]
  by_cases e : k = b
  · subst e
    rw [if_pos rfl, if_pos hi, if_pos ⟨rfl, rfl⟩]; rfl
  · rw [if_neg e]
    by_cases h2 : isI (tyN a k) = true
    · rw [if_pos h2, if_pos h2, if_neg (fun z => e z.2)]
    · rw [if_neg h2, if_neg h2]
theorem fva_upR {α : Nat → Nat} {o a b : Nat} {r : Option Nat} (hi : ¬ isI (tyN a b) = true) (k : Nat) : updV (fva α fi fr o a) b (cv α (.inr (.inl r))) k = fva α fi (up2 fr o b r) o a k := by
  unfold updV fva
  rw [up2_at]
  by_cases e : k = b
  · subst e
    rw [if_pos rfl, if_neg hi, if_pos ⟨rfl, rfl⟩]
    cases r <;> rfl
  · rw [if_neg e]
    by_cases h2 : isI (tyN a k) = true
    · rw [if_pos h2, if_pos h2]
    · rw [if_neg h2, if_neg h2, if_neg (fun z => e z.2)]
theorem up2_ne {β : Type} {f : Nat → Nat → β} {o k : Nat} {v : β} {i : Nat} (h : i ≠ o) (j : Nat) : up2 f o k v i j = f i j := by
  rw [up2_at, if_neg (fun z => h z.1)]
theorem inb_in {j : Int} {n : Nat} (h : inb j n) (hn : n < 2147483648) : vp_in (Int32.ofInt j) n ∧ (Int32.ofInt j).toNatClampNeg = j.toNat ∧ j.toNat < n := by
  obtain ⟨h1, h2⟩ := h
  have hr : rg j := ⟨by omega, by omega⟩
  have e : (Int32.ofInt j).toNatClampNeg = j.toNat := by
    show (Int32.ofInt j).toInt.toNat = _
    rw [oi_toInt hr]
  exact ⟨vp_in_iff.mpr (by rw [oi_toInt hr]; exact ⟨h1, h2⟩), e, by omega⟩
theorem shp_lt (md o : Nat) : (shp md o).2 < 2147483648 := shp_small md o
/-- a row of ints or bytes is read -/
theorem xh_iald (hx : p.tables.exec = Jvm.exec) (hb : c.code = cc) {o : Nat} {j : Int} (hT : TK G s) (hd : decode cc pc = .ok (.iaload, np - pc)) (hn : np = pc + 1) (hK : isK md o 0 N = true) (hj : inb j (shp md o).2)
    (k : XW (OO md G sz0 sb scL scX s N0 Nf) ce se nL p l e R s m args below meth c Q np L (.inl (ai o j.toNat) :: S) N fi fr ai al) : XW (OO md G sz0 sb scL scX s N0 Nf) ce se nL p l e R s m args below meth c Q pc L (.inl j :: .inr (.inl (some o)) :: S) N fi fr ai al := by
  subst hn
  rw [Nat.add_sub_cancel_left] at hd
  intro α H locs ls hO hl
  have k1 := k α H locs ls hO hl
  have hW := hO.2.2.2.2.1
  obtain ⟨ho, hs⟩ := isK_spec hK hW.2.2.2.2.1
  obtain ⟨g1, g2, g3⟩ := inb_in hj (shp_lt md o)
  exact W.iald (v := .int (Int32.ofInt (ai o j.toNat))) hx hb ((hW.1 o ho).1 hs) ((hT.2 0 _ rfl).1 _ _) (fun q => by cases q) (by rw [arrV_size]; exact g1) (by rw [g2, arrV_read _ _ g3]) rfl rfl hd k1
theorem xh_bald (hx : p.tables.exec = Jvm.exec) (hb : c.code = cc) {o : Nat} {j : Int} (hT : TK G s) (hd : decode cc pc = .ok (.baload, np - pc)) (hn : np = pc + 1) (hK : isK md o 1 N = true) (hj : inb j (shp md o).2)
    (k : XW (OO md G sz0 sb scL scX s N0 Nf) ce se nL p l e R s m args below meth c Q np L (.inl (ai o j.toNat) :: S) N fi fr ai al) : XW (OO md G sz0 sb scL scX s N0 Nf) ce se nL p l e R s m args below meth c Q pc L (.inl j :: .inr (.inl (some o)) :: S) N fi fr ai al := by
  subst hn
  rw [Nat.add_sub_cancel_left] at hd
  intro α H locs ls hO hl
  have k1 := k α H locs ls hO hl
  have hW := hO.2.2.2.2.1
  obtain ⟨ho, hs⟩ := isK_spec hK hW.2.2.2.2.1
  obtain ⟨g1, g2, g3⟩ := inb_in hj (shp_lt md o)
  exact W.bald (v := .int (Int32.ofInt (ai o j.toNat))) hx hb ((hW.1 o ho).2.1 hs) ((hT.2 1 _ rfl).1 _ _) (fun q => by cases q) (by rw [arrV_size]; exact g1) (by rw [g2, arrV_read _ _ g3]) rfl rfl hd k1
theorem xh_lald (hx : p.tables.exec = Jvm.exec) (hb : c.code = cc) {o : Nat} {j : Int} (hT : TK G s) (hd : decode cc pc = .ok (.laload, np - pc)) (hn : np = pc + 1) (hK : isK md o 2 N = true) (hj : inb j (shp md o).2)
    (k : XW (OO md G sz0 sb scL scX s N0 Nf) ce se nL p l e R s m args below meth c Q np L (.inr (.inr (al o j.toNat)) :: S) N fi fr ai al) : XW (OO md G sz0 sb scL scX s N0 Nf) ce se nL p l e R s m args below meth c Q pc L (.inl j :: .inr (.inl (some o)) :: S) N fi fr ai al := by
  subst hn
  rw [Nat.add_sub_cancel_left] at hd
  intro α H locs ls hO hl
  have k1 := k α H locs ls hO hl
  have hW := hO.2.2.2.2.1
  obtain ⟨ho, hs⟩ := isK_spec hK hW.2.2.2.2.1
  obtain ⟨g1, g2, g3⟩ := inb_in hj (shp_lt md o)
  exact W.lald (v := .long (al o j.toNat)) hx hb ((hW.1 o ho).2.2.1 hs) ((hT.2 2 _ rfl).1 _ _) (fun q => by cases q) (by rw [arrV_size]; exact g1) (by rw [g2, arrV_read _ _ g3]) rfl rfl hd k1
theorem xh_aald (hx : p.tables.exec = Jvm.exec) (hb : c.code = cc) {o : Nat} {j : Int} (hT : TK G s) (hd : decode cc pc = .ok (.aaload, np - pc)) (hn : np = pc + 1) (hK : isK md o 3 N = true) (hj : inb j (shp md o).2)
    (k : XW (OO md G sz0 sb scL scX s N0 Nf) ce se nL p l e R s m args below meth c Q np L (.inr (.inl (some (o + 1 + j.toNat))) :: S) N fi fr ai al) : XW (OO md G sz0 sb scL scX s N0 Nf) ce se nL p l e R s m args below meth c Q pc L (.inl j :: .inr (.inl (some o)) :: S) N fi fr ai al := by
  subst hn
  rw [Nat.add_sub_cancel_left] at hd
  intro α H locs ls hO hl
  have k1 := k α H locs ls hO hl
  have hW := hO.2.2.2.2.1
  obtain ⟨ho, hs⟩ := isK_spec hK hW.2.2.2.2.1
  obtain ⟨g1, g2, g3⟩ := inb_in hj (shp_lt md o)
  exact W.aald (v := .ref (α (o + 1 + j.toNat))) (ty := .array .int) hx hb ((hW.1 o ho).2.2.2.1 hs) ((hT.2 3 _ rfl).1 _ _) rfl (fun q => by cases q) (by rw [arrV_size]; exact g1) (by rw [g2, arrV_read _ _ g3]) rfl rfl hd k1
theorem xh_scr (hx : p.tables.exec = Jvm.exec) (hb : c.code = cc) {o : Nat} {j : Int} (hd : decode cc pc = .ok (.iaload, np - pc)) (hn : np = pc + 1) (ho : Nat.beq o 999999 = true) (hj : inb j scL) (hsc : scL < 2147483648)
    (k : XW (OO md G sz0 sb scL scX s N0 Nf) ce se nL p l e R s m args below meth c Q np L (.inl (scX j.toNat) :: S) N fi fr ai al) : XW (OO md G sz0 sb scL scX s N0 Nf) ce se nL p l e R s m args below meth c Q pc L (.inl j :: .inr (.inl (some o)) :: S) N fi fr ai al := by
  subst hn
  rw [Nat.add_sub_cancel_left] at hd
  have := Nat.eq_of_beq_eq_true ho
  subst this
  intro α H locs ls hO hl
  have k1 := k α H locs ls hO hl
  have hW := hO.2.2.2.2.1
  obtain ⟨⟨scr, h1, h2, h3, h4, h5⟩, -⟩ := hW.2.2.2.1
  obtain ⟨g1, g2, g3⟩ := inb_in hj hsc
  exact W.iald (v := .int (Int32.ofInt (scX j.toNat))) (cell := scr) hx hb (by rw [hW.2.2.2.2.2]; exact h1) h2 h3 (by rw [h4]; exact g1) (by rw [g2]; exact h5 _ g3) rfl rfl hd k1
theorem xh_slen (hx : p.tables.exec = Jvm.exec) (hb : c.code = cc) {o : Nat} (hd : decode cc pc = .ok (.arraylength, np - pc)) (hn : np = pc + 1) (ho : Nat.beq o 999999 = true)
    (k : XW (OO md G sz0 sb scL scX s N0 Nf) ce se nL p l e R s m args below meth c Q np L (.inl (scL : Int) :: S) N fi fr ai al) : XW (OO md G sz0 sb scL scX s N0 Nf) ce se nL p l e R s m args below meth c Q pc L (.inr (.inl (some o)) :: S) N fi fr ai al := by
  subst hn
  rw [Nat.add_sub_cancel_left] at hd
  have := Nat.eq_of_beq_eq_true ho
  subst this
  intro α H locs ls hO hl
  have k1 := k α H locs ls hO hl
  have hW := hO.2.2.2.2.1
  obtain ⟨⟨scr, h1, h2, h3, h4, h5⟩, -⟩ := hW.2.2.2.1
  exact W.alen (n := Int32.ofInt (scL : Int)) (cell := scr) hx hb (by rw [hW.2.2.2.2.2]; exact h1) h2 (by rw [h4]; exact (Int32.ofInt_eq_ofNat (n := scL)).symm) rfl rfl hd k1
theorem xh_alen (hx : p.tables.exec = Jvm.exec) (hb : c.code = cc) {o : Nat} (hT : TK G s) (hd : decode cc pc = .ok (.arraylength, np - pc)) (hn : np = pc + 1) (hK : isAr md o N = true)
    (k : XW (OO md G sz0 sb scL scX s N0 Nf) ce se nL p l e R s m args below meth c Q np L (.inl ((shp md o).2 : Int) :: S) N fi fr ai al) : XW (OO md G sz0 sb scL scX s N0 Nf) ce se nL p l e R s m args below meth c Q pc L (.inr (.inl (some o)) :: S) N fi fr ai al := by
  subst hn
  rw [Nat.add_sub_cancel_left] at hd
  intro α H locs ls hO hl
  have k1 := k α H locs ls hO hl
  have hW := hO.2.2.2.2.1
  unfold isAr at hK
  rw [Bool.and_eq_true] at hK
  have ho := isL_lt hK.1 hW.2.2.2.2.1
  have hs := Nat.le_of_ble_eq_true hK.2
  obtain ⟨h0, h1, h2, h3, -⟩ := hW.1 o ho
  have hz : ∀ (cl : ClassId) (f : Nat → Value), (arrV cl (shp md o).2 f).slots.size.toInt32 = Int32.ofInt ((shp md o).2 : Int) := fun cl f => by rw [arrV_size]; exact (Int32.ofInt_eq_ofNat (n := (shp md o).2)).symm
  by_cases e0 : (shp md o).1 = 0
  · exact W.alen hx hb (h0 e0) ((hT.2 0 _ rfl).1 _ _) (hz _ _) rfl rfl hd k1
  · by_cases e1 : (shp md o).1 = 1
    · exact W.alen hx hb (h1 e1) ((hT.2 1 _ rfl).1 _ _) (hz _ _) rfl rfl hd k1
    · by_cases e2 : (shp md o).1 = 2
      · exact W.alen hx hb (h2 e2) ((hT.2 2 _ rfl).1 _ _) (hz _ _) rfl rfl hd k1
      · exact W.alen hx hb (h3 (by omega)) ((hT.2 3 _ rfl).1 _ _) (hz _ _) rfl rfl hd k1
theorem updV_int {f : tF} {o j : Nat} {z : Int} : updV (fun i => Value.int (Int32.ofInt (f o i))) j (.int (Int32.ofInt z)) = fun i => Value.int (Int32.ofInt (up2 f o j z o i)) := by
  funext i
  unfold updV
  rw [up2_at]
  by_cases e : i = j
  · rw [if_pos e, if_pos ⟨rfl, e⟩]
  · rw [if_neg e, if_neg (fun q => e q.2)]
theorem xh_iast (hx : p.tables.exec = Jvm.exec) (hb : c.code = cc) {o : Nat} {j z : Int} (hT : TK G s) (hd : decode cc pc = .ok (.iastore, np - pc)) (hn : np = pc + 1) (hK : isK md o 0 N = true) (hj : inb j (shp md o).2)
    (k : XW (OO md G sz0 sb scL scX s N0 Nf) ce se nL p l e R s m args below meth c Q np L S N fi fr (up2 ai o j.toNat z) al) : XW (OO md G sz0 sb scL scX s N0 Nf) ce se nL p l e R s m args below meth c Q pc L (.inl z :: .inl j :: .inr (.inl (some o)) :: S) N fi fr ai al := by
  subst hn
  rw [Nat.add_sub_cancel_left] at hd
  intro α H locs ls hO hl
  have hW := hO.2.2.2.2.1
  obtain ⟨ho, hs⟩ := isK_spec hK hW.2.2.2.2.1
  obtain ⟨g1, g2, g3⟩ := inb_in hj (shp_lt md o)
  refine W.iast hx hb ((hW.1 o ho).1 hs) ((hT.2 0 _ rfl).1 _ _) (fun q => by cases q) (by rw [arrV_size]; exact g1) rfl rfl hd (fun H1 e1 e2 e3 => ?_)
  refine k α H1 _ ls (hO.put ho (Or.inl (by omega)) e2 e3 ⟨fun _ => ?_, fun q => by omega, fun q => by omega, fun q => by omega, fun q hq => by omega⟩ (fun i hi q => ⟨rfl, rfl, up2_ne hi _, rfl⟩)) hl
  rw [e1, arrV_store, g2, updV_int]
theorem xh_bast (hx : p.tables.exec = Jvm.exec) (hb : c.code = cc) {o : Nat} {j z : Int} (hT : TK G s) (hd : decode cc pc = .ok (.bastore, np - pc)) (hn : np = pc + 1) (hK : isK md o 1 N = true) (hj : inb j (shp md o).2)
    (k : XW (OO md G sz0 sb scL scX s N0 Nf) ce se nL p l e R s m args below meth c Q np L S N fi fr (up2 ai o j.toNat (byt z)) al) : XW (OO md G sz0 sb scL scX s N0 Nf) ce se nL p l e R s m args below meth c Q pc L (.inl z :: .inl j :: .inr (.inl (some o)) :: S) N fi fr ai al := by
  subst hn
  rw [Nat.add_sub_cancel_left] at hd
  intro α H locs ls hO hl
  have hW := hO.2.2.2.2.1
  obtain ⟨ho, hs⟩ := isK_spec hK hW.2.2.2.2.1
  obtain ⟨g1, g2, g3⟩ := inb_in hj (shp_lt md o)
  refine W.bast hx hb ((hW.1 o ho).2.1 hs) ((hT.2 1 _ rfl).1 _ _) (fun q => by cases q) (by rw [arrV_size]; exact g1) rfl rfl hd (fun H1 e1 e2 e3 => ?_)
  refine k α H1 _ ls (hO.put ho (Or.inl (by omega)) e2 e3 ⟨fun q => by omega, fun _ => ?_, fun q => by omega, fun q => by omega, fun q hq => by omega⟩ (fun i hi q => ⟨rfl, rfl, up2_ne hi _, rfl⟩)) hl
  have hbz : narrow .byte (.int (Int32.ofInt z)) = .int (Int32.ofInt (byt z)) := by
    rw [narrow_byte]; unfold byt; rw [oi_of]
  rw [e1, arrV_store, g2, hbz, updV_int]
theorem xh_last (hx : p.tables.exec = Jvm.exec) (hb : c.code = cc) {o : Nat} {j : Int} {z : Int64} (hT : TK G s) (hd : decode cc pc = .ok (.lastore, np - pc)) (hn : np = pc + 1) (hK : isK md o 2 N = true) (hj : inb j (shp md o).2)
    (k : XW (OO md G sz0 sb scL scX s N0 Nf) ce se nL p l e R s m args below meth c Q np L S N fi fr ai (up2 al o j.toNat z)) : XW (OO md G sz0 sb scL scX s N0 Nf) ce se nL p l e R s m args below meth c Q pc L (.inr (.inr z) :: .inl j :: .inr (.inl (some o)) :: S) N fi fr ai al := by
  subst hn
  rw [Nat.add_sub_cancel_left] at hd
  intro α H locs ls hO hl
  have hW := hO.2.2.2.2.1
  obtain ⟨ho, hs⟩ := isK_spec hK hW.2.2.2.2.1
  obtain ⟨g1, g2, g3⟩ := inb_in hj (shp_lt md o)
  refine W.last hx hb ((hW.1 o ho).2.2.1 hs) ((hT.2 2 _ rfl).1 _ _) (fun q => by cases q) (by rw [arrV_size]; exact g1) rfl rfl hd (fun H1 e1 e2 e3 => ?_)
  refine k α H1 _ ls (hO.put ho (Or.inl (by omega)) e2 e3 ⟨fun q => by omega, fun q => by omega, fun _ => ?_, fun q => by omega, fun q hq => by omega⟩ (fun i hi q => ⟨rfl, rfl, rfl, up2_ne hi _⟩)) hl
  rw [e1, arrV_store, g2]
  congr 2
  funext i
  unfold updV
  rw [up2_at]
  by_cases e : i = j.toNat
  · rw [if_pos e, if_pos ⟨rfl, e⟩]
  · rw [if_neg e, if_neg (fun q => e q.2)]
end Heap2
