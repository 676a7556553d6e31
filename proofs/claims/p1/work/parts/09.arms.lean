/-! the step is the machine's: the arms that leave the heap alone -/
def cv (α : Nat → Nat) : av → Value
  | .inl z => .int (Int32.ofInt z)
  | .inr (.inl none) => .null
  | .inr (.inl (some i)) => .ref (α i)
  | .inr (.inr w) => .long w
def lrel (α : Nat → Nat) (L : List (Option av)) (ls : Array Slot) (nL : Nat) : Prop := ls.size = nL ∧ lv_wf ls ∧ L.length = nL ∧ ∀ k v, gl L k = some v → ls[k]? = some (.val (cv α v))
def lvo (α : Nat → Nat) (L : List (Option av)) : List (Nat × Value) := (List.range L.length).filterMap fun k => (gl L k).map fun v => (k, cv α v)
theorem gl_lt : ∀ {L : List (Option av)} {k : Nat} {v : av}, gl L k = some v → k < L.length
  | [], _, _, h => by simp [gl] at h
  | _ :: _, 0, _, _ => by simp
  | _ :: t, k + 1, _, h => by simpa using gl_lt (L := t) h
theorem lvo_mem {α : Nat → Nat} {L : List (Option av)} {q : Nat × Value} : q ∈ lvo α L ↔ ∃ v, gl L q.1 = some v ∧ q.2 = cv α v := by
  unfold lvo
  constructor
  · intro h
    obtain ⟨k, -, hk⟩ := List.mem_filterMap.mp h
    obtain ⟨v, hv, rfl⟩ := Option.map_eq_some_iff.mp hk
    exact ⟨v, hv, rfl⟩
  · rintro ⟨v, h1, h2⟩
    refine List.mem_filterMap.mpr ⟨q.1, List.mem_range.mpr (gl_lt h1), ?_⟩
    rw [h1, Option.map_some, ← h2]
theorem lrel_has {α : Nat → Nat} {L : List (Option av)} {ls : Array Slot} {nL : Nat} (h : lrel α L ls nL) : lv_has ls nL (lvo α L) := ⟨h.1, h.2.1, fun q hq => by
  obtain ⟨v, h1, h2⟩ := lvo_mem.mp hq
  rw [h2]
  exact h.2.2.2 _ _ h1⟩
theorem sl_len : ∀ (L : List (Option av)) (k : Nat) (v : av), (sl L k v).length = L.length
  | [], _, _ => by simp [sl]
  | _ :: _, 0, _ => by simp [sl]
  | [none], 1, _ => by simp [sl]
  | [some (.inl _)], 1, _ => by simp [sl]
  | [some (.inr (.inl _))], 1, _ => by simp [sl]
  | [some (.inr (.inr _))], 1, _ => by simp [sl]
  | none :: b :: t, 1, v => by simp [sl]
  | some (.inl _) :: b :: t, 1, v => by simp [sl]
  | some (.inr (.inl _)) :: b :: t, 1, v => by simp [sl]
  | some (.inr (.inr _)) :: b :: t, 1, v => by simp [sl]
  | a :: t, k + 2, v => by simp [sl, sl_len t (k + 1) v]
def isLg : av → Bool
  | .inr (.inr _) => true
  | _ => false
theorem gl_sl : ∀ (L : List (Option av)) (i : Nat) (v : av) (k : Nat) (w : av), i < L.length → gl (sl L i v) k = some w → (k = i ∧ w = v) ∨ (k ≠ i ∧ gl L k = some w ∧ ¬ (k + 1 = i ∧ isLg w = true))
  | [], _, _, _, _, hi, _ => absurd hi (Nat.not_lt_zero _)
  | a :: t, 0, v, 0, w, _, h => Or.inl ⟨rfl, by simpa [sl, gl] using h.symm⟩
  | a :: t, 0, v, k + 1, w, _, h => Or.inr ⟨by omega, by simpa [sl, gl] using h, by omega⟩
  | [a], i + 1, v, k, w, hi, h => absurd hi (by simp)
  | none :: b :: t, 1, v, k, w, hi, h => by
    match k, h with
    | 0, h => simp [sl, gl] at h
    | 1, h => exact Or.inl ⟨rfl, by simpa [sl, gl] using h.symm⟩
    | k + 2, h => exact Or.inr ⟨by omega, by simpa [sl, gl] using h, by omega⟩
  | some (.inl z) :: b :: t, 1, v, k, w, hi, h => by
    match k, h with
    | 0, h =>
      refine Or.inr ⟨by omega, by simpa [sl, gl] using h, ?_⟩
      have : w = .inl z := by simpa [sl, gl] using h.symm
      rw [this]; simp [isLg]
    | 1, h => exact Or.inl ⟨rfl, by simpa [sl, gl] using h.symm⟩
    | k + 2, h => exact Or.inr ⟨by omega, by simpa [sl, gl] using h, by omega⟩
  | some (.inr (.inl z)) :: b :: t, 1, v, k, w, hi, h => by
    match k, h with
    | 0, h =>
      refine Or.inr ⟨by omega, by simpa [sl, gl] using h, ?_⟩
      have : w = .inr (.inl z) := by simpa [sl, gl] using h.symm
      rw [this]; simp [isLg]
    | 1, h => exact Or.inl ⟨rfl, by simpa [sl, gl] using h.symm⟩
    | k + 2, h => exact Or.inr ⟨by omega, by simpa [sl, gl] using h, by omega⟩
  | some (.inr (.inr z)) :: b :: t, 1, v, k, w, hi, h => by
    match k, h with
    | 0, h => simp [sl, gl] at h
    | 1, h => exact Or.inl ⟨rfl, by simpa [sl, gl] using h.symm⟩
    | k + 2, h => exact Or.inr ⟨by omega, by simpa [sl, gl] using h, by omega⟩
  | a :: b :: t, i + 2, v, 0, w, hi, h => Or.inr ⟨by omega, by simpa [sl, gl] using h, by omega⟩
  | a :: b :: t, i + 2, v, k + 1, w, hi, h => by
    rcases gl_sl (b :: t) (i + 1) v k w (by simpa using hi) (by simpa [sl, gl] using h) with ⟨h1, h2⟩ | ⟨h1, h2, h3⟩
    · exact Or.inl ⟨by omega, h2⟩
    · exact Or.inr ⟨by omega, by simpa [gl] using h2, fun q => h3 ⟨by omega, q.2⟩⟩
theorem cv_cat (α : Nat → Nat) (v : av) : (cv α v).category = 2 ↔ isLg v = true := by
  rcases v with z | r | w
  · simp [cv, Value.category, isLg]
  · cases r <;> simp [cv, Value.category, isLg]
  · simp [cv, Value.category, isLg]
/-- what is left of the locals when a value of one slot was laid -/
theorem lrel_store {α : Nat → Nat} {L : List (Option av)} {ls' : Array Slot} {nL i : Nat} {v : av} (hL : L.length = nL) (hi : i < nL)
    (h : lv_has ls' nL ((i, cv α v) :: (lvo α L).filter (fun q => !(q.1 == i) && !(q.1 + 1 == i && q.2.category == 2)))) : lrel α (sl L i v) ls' nL := by
  refine ⟨h.1, h.2.1, by rw [sl_len, hL], fun k w hk => ?_⟩
  rcases gl_sl L i v k w (by omega) hk with ⟨rfl, rfl⟩ | ⟨h1, h2, h3⟩
  · exact h.2.2 (k, cv α w) List.mem_cons_self
  · refine h.2.2 (k, cv α w) (List.mem_cons_of_mem _ (List.mem_filter.mpr ⟨lvo_mem.mpr ⟨w, h2, rfl⟩, ?_⟩))
    have e1 : (k == i) = false := by simpa using h1
    simp only [e1, Bool.not_false, Bool.true_and]
    by_cases hc : k + 1 = i
    · have hw : isLg w ≠ true := fun q => h3 ⟨hc, q⟩
      have : ¬ (cv α w).category = 2 := fun q => hw ((cv_cat α w).mp q)
      simp [this]
    · have : (k + 1 == i) = false := by simpa using hc
      simp [this]
def XW (O : (Nat → Nat) → Nat → tF → tR → tF → tL → Heap → List Loc → Prop) (ce se : Nat → Nat) (nL : Nat) (p : Program) (l : Launch) (e : Env) (R : Room) (s : State) (m : MethodId) (args : Array Value) (below : List Frame) (meth : Method) (c : Code) (Q : State → Prop) : kt := fun pc L S N fi fr ai al =>
  ∀ α H locs ls, O α N fi fr ai al H locs → lrel α L ls nL → W p l e R s m args below meth c H locs (ce N) (se N) Q (F0 m pc ls (S.map (cv α)))
theorem oi_add (x y : Int) : Int32.ofInt x + Int32.ofInt y = Int32.ofInt (x + y) := (Int32.ofInt_add x y).symm
theorem oi_sub (x y : Int) : Int32.ofInt x - Int32.ofInt y = Int32.ofInt (x - y) := (Int32.ofInt_sub x y).symm
theorem oi_mul (x y : Int) : Int32.ofInt x * Int32.ofInt y = Int32.ofInt (x * y) := (Int32.ofInt_mul x y).symm
theorem oi_toInt {x : Int} (h : rg x) : (Int32.ofInt x).toInt = x := Int32.toInt_ofInt_of_le h.1 (by have := h.2; omega)
theorem oi_inj {x y : Int} (hx : rg x) (hy : rg y) (h : Int32.ofInt x = Int32.ofInt y) : x = y := by rw [← oi_toInt hx, ← oi_toInt hy, h]
theorem oi_lt {x y : Int} (hx : rg x) (hy : rg y) : Int32.ofInt x < Int32.ofInt y ↔ x < y := by rw [Int32.lt_iff_toInt_lt, oi_toInt hx, oi_toInt hy]
theorem oi_le {x y : Int} (hx : rg x) (hy : rg y) : Int32.ofInt x ≤ Int32.ofInt y ↔ x ≤ y := by rw [Int32.le_iff_toInt_le, oi_toInt hx, oi_toInt hy]
theorem oi_of (x : Int32) : Int32.ofInt x.toInt = x := Int32.ofInt_toInt x
theorem oi_div {x y : Int} (hx : rg x) (hy : rg y) : Int32.ofInt x / Int32.ofInt y = Int32.ofInt (x.tdiv y) := by
  apply Int32.toInt_inj.mp
  rw [Int32.toInt_div, oi_toInt hx, oi_toInt hy, Int32.toInt_ofInt]
theorem oi_rem {x y : Int} (hx : rg x) (hy : rg y) : Int32.ofInt x - Int32.ofInt x / Int32.ofInt y * Int32.ofInt y = Int32.ofInt (x.tmod y) := by
  rw [oi_div hx hy, oi_mul, oi_sub, Int.tmod_def, Int.mul_comm]
theorem rg0 : rg 0 := ⟨by omega, by omega⟩
section Arms
variable {O : (Nat → Nat) → Nat → tF → tR → tF → tL → Heap → List Loc → Prop} {ce se : Nat → Nat} {nL : Nat} {p : Program} {l : Launch} {e : Env} {R : Room} {s : State} {m : MethodId} {args : Array Value} {below : List Frame} {meth : Method} {c : Code} {Q : State → Prop}
variable {cc : ByteArray} {pc np : Nat} {L : List (Option av)} {S S' : List av} {N : Nat} {fi : tF} {fr : tR} {ai : tF} {al : tL}
theorem xw_const (hx : p.tables.exec = Jvm.exec) (hb : c.code = cc) {n : Int} (hd : decode cc pc = .ok (.iconst n, np - pc)) (hn : np = pc + 1) (k : XW O ce se nL p l e R s m args below meth c Q np L (.inl n :: S) N fi fr ai al) : XW O ce se nL p l e R s m args below meth c Q pc L S N fi fr ai al := by
  subst hn
  rw [Nat.add_sub_cancel_left] at hd
  exact fun α H locs ls hO hl => lv_iconst hx hb hd rfl (k α H locs ls hO hl)
theorem xw_bipush (hx : p.tables.exec = Jvm.exec) (hb : c.code = cc) {n : Int} (hd : decode cc pc = .ok (.bipush n, np - pc)) (hn : np = pc + 2) (hv : (Int8.ofInt n).toInt32 = Int32.ofInt n) (k : XW O ce se nL p l e R s m args below meth c Q np L (.inl n :: S) N fi fr ai al) : XW O ce se nL p l e R s m args below meth c Q pc L S N fi fr ai al := by
  subst hn
  rw [Nat.add_sub_cancel_left] at hd
  exact fun α H locs ls hO hl => lv_bipush hx hb hd hv (k α H locs ls hO hl)
theorem xw_sipush (hx : p.tables.exec = Jvm.exec) (hb : c.code = cc) {n : Int} (hd : decode cc pc = .ok (.sipush n, np - pc)) (hn : np = pc + 3) (hv : (Int16.ofInt n).toInt32 = Int32.ofInt n) (k : XW O ce se nL p l e R s m args below meth c Q np L (.inl n :: S) N fi fr ai al) : XW O ce se nL p l e R s m args below meth c Q pc L S N fi fr ai al := by
  subst hn
  rw [Nat.add_sub_cancel_left] at hd
  exact fun α H locs ls hO hl => lv_sipush hx hb hd hv (k α H locs ls hO hl)
theorem xw_ldc (hx : p.tables.exec = Jvm.exec) (hb : c.code = cc) {own : String} {idx a : Nat} (hown : s.vm.findClass own = some m.cls) (hw : (Jvm.Cond.constant own idx (Int32.ofInt (a : Int))).before args s = true) (hd : decode cc pc = .ok (.ldc idx, np - pc)) (hn : np = pc + 2) (k : XW O ce se nL p l e R s m args below meth c Q np L (.inl (a : Int) :: S) N fi fr ai al) : XW O ce se nL p l e R s m args below meth c Q pc L S N fi fr ai al := by
  subst hn
  rw [Nat.add_sub_cancel_left] at hd
  exact fun α H locs ls hO hl => lv_ldc hx hb hown hw hd (k α H locs ls hO hl)
theorem xw_ldcw (hx : p.tables.exec = Jvm.exec) (hb : c.code = cc) {own : String} {idx a : Nat} (hown : s.vm.findClass own = some m.cls) (hw : (Jvm.Cond.constant own idx (Int32.ofInt (a : Int))).before args s = true) (hd : decode cc pc = .ok (.ldc_w idx, np - pc)) (hn : np = pc + 3) (k : XW O ce se nL p l e R s m args below meth c Q np L (.inl (a : Int) :: S) N fi fr ai al) : XW O ce se nL p l e R s m args below meth c Q pc L S N fi fr ai al := by
  subst hn
  rw [Nat.add_sub_cancel_left] at hd
  exact fun α H locs ls hO hl => lv_ldcw hx hb hown hw hd (k α H locs ls hO hl)
theorem xw_ldc2 (hx : p.tables.exec = Jvm.exec) (hb : c.code = cc) {own : String} {idx a : Nat} (hown : s.vm.findClass own = some m.cls) (hw : (Jvm.Cond.constantLong own idx (Int64.ofNat a)).before args s = true) (hd : decode cc pc = .ok (.ldc2_w idx, np - pc)) (hn : np = pc + 3) (k : XW O ce se nL p l e R s m args below meth c Q np L (.inr (.inr (Int64.ofNat a)) :: S) N fi fr ai al) : XW O ce se nL p l e R s m args below meth c Q pc L S N fi fr ai al := by
  subst hn
  rw [Nat.add_sub_cancel_left] at hd
  exact fun α H locs ls hO hl => lv_ldc2 hx hb hown hw hd (k α H locs ls hO hl)
theorem xw_lconst (hx : p.tables.exec = Jvm.exec) (hb : c.code = cc) {n : Fin 2} {a : Nat} (ha : n.val = a) (hd : decode cc pc = .ok (.lconst n, np - pc)) (hn : np = pc + 1) (k : XW O ce se nL p l e R s m args below meth c Q np L (.inr (.inr (Int64.ofNat a)) :: S) N fi fr ai al) : XW O ce se nL p l e R s m args below meth c Q pc L S N fi fr ai al := by
  subst hn
  rw [Nat.add_sub_cancel_left] at hd
  exact fun α H locs ls hO hl => lv_lconst hx hb hd (by rw [ha]) (k α H locs ls hO hl)
theorem xw_null (hx : p.tables.exec = Jvm.exec) (hb : c.code = cc) (hd : decode cc pc = .ok (.aconst_null, np - pc)) (hn : np = pc + 1) (k : XW O ce se nL p l e R s m args below meth c Q np L (.inr (.inl none) :: S) N fi fr ai al) : XW O ce se nL p l e R s m args below meth c Q pc L S N fi fr ai al := by
  subst hn
  rw [Nat.add_sub_cancel_left] at hd
  exact fun α H locs ls hO hl => lv_null hx hb hd (k α H locs ls hO hl)
theorem xw_iload (hx : p.tables.exec = Jvm.exec) (hb : c.code = cc) {i : Nat} {z : Int} (hz : gl L i = some (.inl z)) (hd : decode cc pc = .ok (.iload i, np - pc)) (hn : np = pc + 2) (k : XW O ce se nL p l e R s m args below meth c Q np L (.inl z :: S) N fi fr ai al) : XW O ce se nL p l e R s m args below meth c Q pc L S N fi fr ai al := by
  subst hn
  rw [Nat.add_sub_cancel_left] at hd
  exact fun α H locs ls hO hl => lv_iload hx hb hd (hl.2.2.2 _ _ hz) (k α H locs ls hO hl)
theorem xw_iload_n (hx : p.tables.exec = Jvm.exec) (hb : c.code = cc) {i : Fin 4} {z : Int} (hz : gl L i.val = some (.inl z)) (hd : decode cc pc = .ok (.iload_n i, np - pc)) (hn : np = pc + 1) (k : XW O ce se nL p l e R s m args below meth c Q np L (.inl z :: S) N fi fr ai al) : XW O ce se nL p l e R s m args below meth c Q pc L S N fi fr ai al := by
  subst hn
  rw [Nat.add_sub_cancel_left] at hd
  exact fun α H locs ls hO hl => lv_iload_n hx hb hd rfl (hl.2.2.2 _ _ hz) (k α H locs ls hO hl)
theorem xw_lload_n (hx : p.tables.exec = Jvm.exec) (hb : c.code = cc) {i : Fin 4} {z : Int64} (hz : gl L i.val = some (.inr (.inr z))) (hd : decode cc pc = .ok (.lload_n i, np - pc)) (hn : np = pc + 1) (k : XW O ce se nL p l e R s m args below meth c Q np L (.inr (.inr z) :: S) N fi fr ai al) : XW O ce se nL p l e R s m args below meth c Q pc L S N fi fr ai al := by
  subst hn
  rw [Nat.add_sub_cancel_left] at hd
  exact fun α H locs ls hO hl => lv_lload_n hx hb hd rfl (hl.2.2.2 _ _ hz) (k α H locs ls hO hl)
theorem xw_aload (hx : p.tables.exec = Jvm.exec) (hb : c.code = cc) {i : Nat} {r : Option Nat} (hz : gl L i = some (.inr (.inl r))) (hd : decode cc pc = .ok (.aload i, np - pc)) (hn : np = pc + 2) (k : XW O ce se nL p l e R s m args below meth c Q np L (.inr (.inl r) :: S) N fi fr ai al) : XW O ce se nL p l e R s m args below meth c Q pc L S N fi fr ai al := by
  subst hn
  rw [Nat.add_sub_cancel_left] at hd
  cases r with
  | none => exact fun α H locs ls hO hl => lv_aloadN hx hb hd (hl.2.2.2 _ _ hz) (k α H locs ls hO hl)
  | some o => exact fun α H locs ls hO hl => lv_aload hx hb hd (hl.2.2.2 _ _ hz) (k α H locs ls hO hl)
theorem xw_aload_n (hx : p.tables.exec = Jvm.exec) (hb : c.code = cc) {i : Fin 4} {r : Option Nat} (hz : gl L i.val = some (.inr (.inl r))) (hd : decode cc pc = .ok (.aload_n i, np - pc)) (hn : np = pc + 1) (k : XW O ce se nL p l e R s m args below meth c Q np L (.inr (.inl r) :: S) N fi fr ai al) : XW O ce se nL p l e R s m args below meth c Q pc L S N fi fr ai al := by
  subst hn
  rw [Nat.add_sub_cancel_left] at hd
  cases r with
  | none => exact fun α H locs ls hO hl => lv_aload_nN hx hb hd rfl (hl.2.2.2 _ _ hz) (k α H locs ls hO hl)
  | some o => exact fun α H locs ls hO hl => lv_aload_n hx hb hd rfl (hl.2.2.2 _ _ hz) (k α H locs ls hO hl)
theorem xw_istore (hx : p.tables.exec = Jvm.exec) (hb : c.code = cc) {i : Nat} {z : Int} (hi : i < nL) (hd : decode cc pc = .ok (.istore i, np - pc)) (hn : np = pc + 2) (k : XW O ce se nL p l e R s m args below meth c Q np (sl L i (.inl z)) S N fi fr ai al) : XW O ce se nL p l e R s m args below meth c Q pc L (.inl z :: S) N fi fr ai al := by
  subst hn
  rw [Nat.add_sub_cancel_left] at hd
  exact fun α H locs ls hO hl => lv_istore hx hb hd (lrel_has hl) hi rfl (fun ls' h' => k α H locs ls' hO (lrel_store (v := .inl z) hl.2.2.1 hi h'))
theorem xw_istore_n (hx : p.tables.exec = Jvm.exec) (hb : c.code = cc) {i : Fin 4} {z : Int} (hi : i.val < nL) (hd : decode cc pc = .ok (.istore_n i, np - pc)) (hn : np = pc + 1) (k : XW O ce se nL p l e R s m args below meth c Q np (sl L i.val (.inl z)) S N fi fr ai al) : XW O ce se nL p l e R s m args below meth c Q pc L (.inl z :: S) N fi fr ai al := by
  subst hn
  rw [Nat.add_sub_cancel_left] at hd
  exact fun α H locs ls hO hl => lv_istore_n hx hb hd rfl (lrel_has hl) hi rfl (fun ls' h' => k α H locs ls' hO (lrel_store (v := .inl z) hl.2.2.1 hi h'))
theorem xw_astore (hx : p.tables.exec = Jvm.exec) (hb : c.code = cc) {i : Nat} {r : Option Nat} (hi : i < nL) (hd : decode cc pc = .ok (.astore i, np - pc)) (hn : np = pc + 2) (k : XW O ce se nL p l e R s m args below meth c Q np (sl L i (.inr (.inl r))) S N fi fr ai al) : XW O ce se nL p l e R s m args below meth c Q pc L (.inr (.inl r) :: S) N fi fr ai al := by
  subst hn
  rw [Nat.add_sub_cancel_left] at hd
  cases r with
  | none => exact fun α H locs ls hO hl => lv_astoreN hx hb hd (lrel_has hl) hi rfl (fun ls' h' => k α H locs ls' hO (lrel_store (v := .inr (.inl none)) hl.2.2.1 hi h'))
  | some o => exact fun α H locs ls hO hl => lv_astore hx hb hd (lrel_has hl) hi rfl (fun ls' h' => k α H locs ls' hO (lrel_store (v := .inr (.inl (some o))) hl.2.2.1 hi h'))
theorem xw_astore_n (hx : p.tables.exec = Jvm.exec) (hb : c.code = cc) {i : Fin 4} {r : Option Nat} (hi : i.val < nL) (hd : decode cc pc = .ok (.astore_n i, np - pc)) (hn : np = pc + 1) (k : XW O ce se nL p l e R s m args below meth c Q np (sl L i.val (.inr (.inl r))) S N fi fr ai al) : XW O ce se nL p l e R s m args below meth c Q pc L (.inr (.inl r) :: S) N fi fr ai al := by
  subst hn
  rw [Nat.add_sub_cancel_left] at hd
  cases r with
  | none => exact fun α H locs ls hO hl => lv_astore_nN hx hb hd rfl (lrel_has hl) hi rfl (fun ls' h' => k α H locs ls' hO (lrel_store (v := .inr (.inl none)) hl.2.2.1 hi h'))
  | some o => exact fun α H locs ls hO hl => lv_astore_n hx hb hd rfl (lrel_has hl) hi rfl (fun ls' h' => k α H locs ls' hO (lrel_store (v := .inr (.inl (some o))) hl.2.2.1 hi h'))
theorem xw_iinc (hx : p.tables.exec = Jvm.exec) (hb : c.code = cc) {i : Nat} {z n : Int} (hz : gl L i = some (.inl z)) (hi : i < nL) (hd : decode cc pc = .ok (.iinc i n, np - pc)) (hn : np = pc + 3) (k : XW O ce se nL p l e R s m args below meth c Q np (sl L i (.inl (z + n))) S N fi fr ai al) : XW O ce se nL p l e R s m args below meth c Q pc L S N fi fr ai al := by
  subst hn
  rw [Nat.add_sub_cancel_left] at hd
  intro α H locs ls hO hl
  obtain ⟨j, hj⟩ := List.getElem?_of_mem (lvo_mem (α := α) (q := (i, .int (Int32.ofInt z))) |>.mpr ⟨.inl z, hz, rfl⟩)
  exact lv_iinc (v := Int32.ofInt (z + n)) hx hb hd (lrel_has hl) hj (oi_add z n) hi rfl (fun ls' h' => k α H locs ls' hO (lrel_store (v := .inl (z + n)) hl.2.2.1 hi h'))
theorem c1_cat {α : Nat → Nat} {v : av} (h : c1 v = true) : (cv α v).category = 1 := by
  rcases v with z | r | w
  · rfl
  · cases r <;> rfl
  · simp [c1] at h
theorem xw_dup (hx : p.tables.exec = Jvm.exec) (hb : c.code = cc) {v : av} (hc : c1 v = true) (hd : decode cc pc = .ok (.dup, np - pc)) (hn : np = pc + 1) (k : XW O ce se nL p l e R s m args below meth c Q np L (v :: v :: S) N fi fr ai al) : XW O ce se nL p l e R s m args below meth c Q pc L (v :: S) N fi fr ai al := by
  subst hn
  rw [Nat.add_sub_cancel_left] at hd
  exact fun α H locs ls hO hl => lv_dup hx hb hd (c1_cat hc) (k α H locs ls hO hl)
theorem xw_dup2 (hx : p.tables.exec = Jvm.exec) (hb : c.code = cc) {v w : av} (hc : (c1 v && c1 w) = true) (hd : decode cc pc = .ok (.dup2, np - pc)) (hn : np = pc + 1) (k : XW O ce se nL p l e R s m args below meth c Q np L (v :: w :: v :: w :: S) N fi fr ai al) : XW O ce se nL p l e R s m args below meth c Q pc L (v :: w :: S) N fi fr ai al := by
  subst hn
  rw [Nat.add_sub_cancel_left] at hd
  rw [Bool.and_eq_true] at hc
  exact fun α H locs ls hO hl => lv_dup2_11 hx hb hd (c1_cat hc.1) (c1_cat hc.2) (k α H locs ls hO hl)
theorem xw_pop (hx : p.tables.exec = Jvm.exec) (hb : c.code = cc) {v : av} (hc : c1 v = true) (hd : decode cc pc = .ok (.pop, np - pc)) (hn : np = pc + 1) (k : XW O ce se nL p l e R s m args below meth c Q np L S N fi fr ai al) : XW O ce se nL p l e R s m args below meth c Q pc L (v :: S) N fi fr ai al := by
  subst hn
  rw [Nat.add_sub_cancel_left] at hd
  exact fun α H locs ls hO hl => lv_pop hx hb hd (c1_cat hc) (k α H locs ls hO hl)
end Arms
