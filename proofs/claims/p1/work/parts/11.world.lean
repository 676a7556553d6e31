/-! the world: which cells of the heap are the picture's -/
def realC (md i : Nat) : Prop := (shp md i).1 ≤ 3 ∨ 10 ≤ (shp md i).1
def isI (t : FieldType) : Bool := match t with
  | .int => true
  | .boolean => true
  | _ => false
def fva (α : Nat → Nat) (fi : tF) (fr : tR) (i c k : Nat) : Value := if isI (tyN c k) = true then .int (Int32.ofInt (fi i k)) else va_rf ((fr i k).map α)
abbrev gG : Type := (Nat → ClassId) × (Nat → Nat → Nat) × (Nat → ClassId)
def cok (md : Nat) (G : gG) (α : Nat → Nat) (fi : tF) (fr : tR) (ai : tF) (al : tL) (i : Nat) (H : Heap) : Prop :=
  ((shp md i).1 = 0 → H[α i]? = some (arrV (G.2.2 0) (shp md i).2 (fun j => .int (Int32.ofInt (ai i j))))) ∧
  ((shp md i).1 = 1 → H[α i]? = some (arrV (G.2.2 1) (shp md i).2 (fun j => .int (Int32.ofInt (ai i j))))) ∧
  ((shp md i).1 = 2 → H[α i]? = some (arrV (G.2.2 2) (shp md i).2 (fun j => .long (al i j)))) ∧
  ((shp md i).1 = 3 → H[α i]? = some (arrV (G.2.2 3) (shp md i).2 (fun j => .ref (α (i + 1 + j))))) ∧
  (∀ c, (shp md i).1 = 10 + c → t_OB (α i) (G.1 c) (shp md i).2 (G.2.1 c) H (fva α fi fr i c))
/-- what lies under all: the script, and what the exceptions' start looks at -/
def SX (sz0 sb scL : Nat) (scX : Nat → Int) (U : State) (H : Heap) : Prop := va_X sb scL (fun j => Int32.ofInt (scX j)) U H ∧ sb < sz0 ∧ sz0 ≤ H.size ∧ vx_Zq Bundle.tN "UNASSIGNED_STACK" Bundle.steD (fun q => sz0 ≤ q) U H ∧ vx_Zq Bundle.tN "SUPPRESSED_SENTINEL" Bundle.listD (fun q => sz0 ≤ q) U H
theorem SX.kept {sz0 sb scL : Nat} {scX : Nat → Int} {U : State} {H H1 : Heap} (h : SX sz0 sb scL scX U H) (hz : H.size ≤ H1.size) (hq : ∀ q, q < sz0 → H1[q]? = H[q]?) : SX sz0 sb scL scX U H1 := by
  obtain ⟨h1, h2, h3, h4, h5⟩ := h
  exact ⟨h1.kept (hq _ h2), h2, by omega, h4.kept (fun a _ ha => hq a (by omega)), h5.kept (fun a _ ha => hq a (by omega))⟩
theorem SX.moved {sz0 sb scL : Nat} {scX : Nat → Int} {u U : State} {H : Heap} (hvm : u.vm.Alike U.vm) (h : SX sz0 sb scL scX u H) : SX sz0 sb scL scX U H := by
  obtain ⟨h1, h2, h3, h4, h5⟩ := h
  exact ⟨h1.moved hvm, h2, h3, h4.moved hvm, h5.moved hvm⟩
def Wd (md : Nat) (G : gG) (sz0 sb scL : Nat) (scX : Nat → Int) (α : Nat → Nat) (N : Nat) (fi : tF) (fr : tR) (ai : tF) (al : tL) (U : State) (H : Heap) : Prop :=
  (∀ i, i < N → cok md G α fi fr ai al i H) ∧ (∀ i j, i < N → j < N → realC md i → realC md j → α i = α j → i = j) ∧ (∀ i, i < N → realC md i → sz0 ≤ α i) ∧ SX sz0 sb scL scX U H ∧ (md < 10 → 233 ≤ N) ∧ α 999999 = sb
theorem Wd.moved {md : Nat} {G : gG} {sz0 sb scL : Nat} {scX : Nat → Int} {α : Nat → Nat} {N : Nat} {fi : tF} {fr : tR} {ai : tF} {al : tL} {u U : State} {H : Heap} (hvm : u.vm.Alike U.vm) (h : Wd md G sz0 sb scL scX α N fi fr ai al u H) : Wd md G sz0 sb scL scX α N fi fr ai al U H :=
  ⟨h.1, h.2.1, h.2.2.1, h.2.2.2.1.moved hvm, h.2.2.2.2⟩
theorem cok_lt {md : Nat} {G : gG} {α : Nat → Nat} {fi : tF} {fr : tR} {ai : tF} {al : tL} {i : Nat} {H : Heap} (h : cok md G α fi fr ai al i H) (hr : realC md i) : α i < H.size := by
  obtain ⟨h0, h1, h2, h3, h4⟩ := h
  have key : ∀ {x : Cell}, H[α i]? = some x → α i < H.size := fun h => (Array.getElem?_eq_some_iff.mp h).1
  rcases hr with hr | hr
  · by_cases e0 : (shp md i).1 = 0
    · exact key (h0 e0)
    · by_cases e1 : (shp md i).1 = 1
      · exact key (h1 e1)
      · by_cases e2 : (shp md i).1 = 2
        · exact key (h2 e2)
        · exact key (h3 (by omega))
  · obtain ⟨cell, hc, -⟩ := h4 ((shp md i).1 - 10) (by omega)
    exact key hc
/-- the same cell in another heap and picture -/
theorem cok_to {md : Nat} {G : gG} {α α' : Nat → Nat} {fi fi' : tF} {fr fr' : tR} {ai ai' : tF} {al al' : tL} {i : Nat} {H H1 : Heap} (h : cok md G α fi fr ai al i H) (ha : α' i = α i) (hg : (shp md i).1 = 3 → ∀ j, j < (shp md i).2 → α' (i + 1 + j) = α (i + 1 + j))
    (hf : 10 ≤ (shp md i).1 → ∀ k, k < (shp md i).2 → fi' i k = fi i k ∧ (fr' i k).map α' = (fr i k).map α) (hi : (shp md i).1 ≤ 1 → ∀ j, j < (shp md i).2 → ai' i j = ai i j) (hl : (shp md i).1 = 2 → ∀ j, j < (shp md i).2 → al' i j = al i j) (hq : realC md i → H1[α i]? = H[α i]?) : cok md G α' fi' fr' ai' al' i H1 := by
  obtain ⟨h0, h1, h2, h3, h4⟩ := h
  have ext : ∀ (cl : ClassId) (n : Nat) (f g : Nat → Value), (∀ j, j < n → f j = g j) → arrV cl n f = arrV cl n g := by
    intro cl n f g hfg
    unfold arrV
    congr 1
    apply Array.ext (by simp)
    intro j h1 h2
    simp only [Array.getElem_ofFn]
    exact hfg j (by simpa using h1)
  refine ⟨fun e => ?_, fun e => ?_, fun e => ?_, fun e => ?_, fun c e => ?_⟩
  · rw [ha, hq (Or.inl (by omega)), h0 e]
    exact congrArg some (ext _ _ _ _ (fun j hj => by rw [hi (by omega) j hj]))
  · rw [ha, hq (Or.inl (by omega)), h1 e]
    exact congrArg some (ext _ _ _ _ (fun j hj => by rw [hi (by omega) j hj]))
  · rw [ha, hq (Or.inl (by omega)), h2 e]
    exact congrArg some (ext _ _ _ _ (fun j hj => by rw [hl e j hj]))
  · rw [ha, hq (Or.inl (by omega)), h3 e]
    exact congrArg some (ext _ _ _ _ (fun j hj => by rw [hg e j hj]))
  · rw [ha]
    refine t_OB.to ((h4 c e).kept (hq (Or.inr (by omega)))) (fun k hk => ?_)
    obtain ⟨g1, g2⟩ := hf (by omega) k hk
    unfold fva
    rw [g1, g2]
theorem Wd.eqv {md : Nat} {G : gG} {sz0 sb scL : Nat} {scX : Nat → Int} {α : Nat → Nat} {N : Nat} {fi fi' : tF} {fr fr' : tR} {ai ai' : tF} {al al' : tL} {U : State} {H : Heap} (he : eqv md N fi fr ai al fi' fr' ai' al') (h : Wd md G sz0 sb scL scX α N fi fr ai al U H) : Wd md G sz0 sb scL scX α N fi' fr' ai' al' U H :=
  ⟨fun i hi => cok_to (h.1 i hi) rfl (fun _ _ _ => rfl) (fun hk k hkk => ⟨((he i hi k hkk).1 hk).1.symm, by rw [((he i hi k hkk).1 hk).2]⟩) (fun hk j hj => ((he i hi j hj).2.1 hk).symm) (fun hk j hj => ((he i hi j hj).2.2 hk).symm) (fun _ => rfl), h.2⟩
/-- one cell is written -/
theorem Wd.set {md : Nat} {G : gG} {sz0 sb scL : Nat} {scX : Nat → Int} {α : Nat → Nat} {N : Nat} {fi fi' : tF} {fr fr' : tR} {ai ai' : tF} {al al' : tL} {U : State} {H H1 : Heap} {o : Nat} (h : Wd md G sz0 sb scL scX α N fi fr ai al U H) (ho : o < N) (hr : realC md o) (hz : H1.size = H.size) (hq : ∀ q, q ≠ α o → H1[q]? = H[q]?)
    (hn : cok md G α fi' fr' ai' al' o H1) (hk : ∀ i, i ≠ o → ∀ k, fi' i k = fi i k ∧ fr' i k = fr i k ∧ ai' i k = ai i k ∧ al' i k = al i k) : Wd md G sz0 sb scL scX α N fi' fr' ai' al' U H1 := by
  refine ⟨fun i hi => ?_, h.2.1, h.2.2.1, h.2.2.2.1.kept (by omega) (fun q hq1 => hq q (fun e => ?_)), h.2.2.2.2⟩
  · by_cases e : i = o
    · rw [e]; exact hn
    · exact cok_to (h.1 i hi) rfl (fun _ _ _ => rfl) (fun _ k _ => ⟨(hk i e k).1, by rw [(hk i e k).2.1]⟩) (fun _ j _ => (hk i e j).2.2.1) (fun _ j _ => (hk i e j).2.2.2) (fun hri => hq _ (fun z => e (h.2.1 i o hi ho hri hr z)))
  · have := h.2.2.1 o ho hr
    omega
/-- where the cells lie: one behind another; the script apart -/
def aa (sz0 sb : Nat) : Nat → Nat := fun i => if i = 999999 then sb else sz0 + i
def OO (md : Nat) (G : gG) (sz0 sb scL : Nat) (scX : Nat → Int) (s : State) (N0 Nf : Nat) : (Nat → Nat) → Nat → tF → tR → tF → tL → Heap → List Loc → Prop := fun α N fi fr ai al H locs =>
  α = aa sz0 sb ∧ N0 ≤ N ∧ N ≤ Nf ∧ ((shp md N).1 ≠ 8 → H.size = sz0 + N) ∧ Wd md G sz0 sb scL scX α N fi fr ai al s H ∧ va_S (fun q => sz0 ≤ q) s.heap H locs
theorem OO.own {md : Nat} {G : gG} {sz0 sb scL : Nat} {scX : Nat → Int} {s : State} {N0 Nf : Nat} {α : Nat → Nat} {N : Nat} {fi : tF} {fr : tR} {ai : tF} {al : tL} {H : Heap} {locs : List Loc} (h : OO md G sz0 sb scL scX s N0 Nf α N fi fr ai al H locs) {o : Nat} (ho : o < N) (hr : realC md o) : sz0 ≤ α o := h.2.2.2.2.1.2.2.1 o ho hr
theorem isL_lt {md o N : Nat} (h : isL md o N = true) (hN : md < 10 → 233 ≤ N) : o < N := by
  unfold isL at h
  by_cases e : Nat.ble 10 md = true
  · rw [e] at h
    have := Nat.le_of_ble_eq_true (by simpa using h)
    omega
  · have e1 : Nat.ble 10 md = false := (Bool.not_eq_true _).mp e
    rw [e1] at h
    by_cases e2 : Nat.ble 233 o = true
    · rw [e2] at h
      have := Nat.le_of_ble_eq_true (by simpa using h)
      omega
    · have h3 : ¬ 233 ≤ o := fun z => e2 (Nat.ble_eq_true_of_le z)
      have h4 : ¬ 10 ≤ md := fun z => e (Nat.ble_eq_true_of_le z)
      have := hN (by omega)
      omega
theorem isK_spec {md o k N : Nat} (h : isK md o k N = true) (hN : md < 10 → 233 ≤ N) : o < N ∧ (shp md o).1 = k := by
  unfold isK at h
  rw [Bool.and_eq_true] at h
  exact ⟨isL_lt h.1 hN, Nat.eq_of_beq_eq_true h.2⟩
theorem up2_at {α : Type} (f : Nat → Nat → α) (o k : Nat) (v : α) (i j : Nat) : up2 f o k v i j = if i = o ∧ j = k then v else f i j := by
  unfold up2
  by_cases h1 : i = o
  · by_cases h2 : j = k
    · subst h1; subst h2
      simp [Nat.beq_refl]
    · have : Nat.beq j k = false := (Bool.not_eq_true _).mp (fun z => h2 (Nat.eq_of_beq_eq_true z))
      simp [this, h2]
  · have : Nat.beq i o = false := (Bool.not_eq_true _).mp (fun z => h1 (Nat.eq_of_beq_eq_true z))
    simp [this, h1]
section Heap1
variable {md : Nat} {G : gG} {sz0 sb scL : Nat} {scX : Nat → Int} {N0 Nf : Nat} {ce se : Nat → Nat} {nL : Nat} {p : Program} {l : Launch} {e : Env} {R : Room} {s : State} {m : MethodId} {args : Array Value} {below : List Frame} {meth : Method} {c : Code} {Q : State → Prop}
variable {cc : ByteArray} {pc np : Nat} {L : List (Option av)} {S S' : List av} {N : Nat} {fi : tF} {fr : tR} {ai : tF} {al : tL}
abbrev arT : Nat → FieldType := fun k => match k with
  | 0 => .int
  | 1 => .byte
  | 2 => .long
  | _ => .array .int
/-- what the tables say, at a state -/
def TK (G : gG) (U : State) : Prop := va_K (G.1, G.2.1) classes [(G.2.2 0, .int), (G.2.2 1, .byte), (G.2.2 2, .long), (G.2.2 3, .array .int)] U
theorem xh_get (hx : p.tables.exec = Jvm.exec) (hb : c.code = cc) {own : String} {a b d idx : Nat} {C : String} {T : u_T} {n o : Nat} (hts : ∀ w ∈ gw, w.before args s = true) (hown : s.vm.findClass own = some m.cls) (hT : TK G s) (hc : classes[a]? = some (C, T, n)) (hb1 : b < n) (hn1 : ∀ i, (shp md i).1 = 10 + a → (shp md i).2 = n)
    (hlink : (Cond.fieldLink own idx (T b).1 (T b).2.1 (T b).2.2.1).before args s = true) (hk : isI (tyN a b) = true ↔ ¬ (d = 1 ∨ d = 11)) (hd : decode cc pc = .ok (.getfield idx, np - pc)) (hn : np = pc + 3) (hK : isK md o (10 + a) N = true)
    (k : XW (OO md G sz0 sb scL scX s N0 Nf) ce se nL p l e R s m args below meth c Q np L (fld d fi fr o b :: S) N fi fr ai al) : XW (OO md G sz0 sb scL scX s N0 Nf) ce se nL p l e R s m args below meth c Q pc L (.inr (.inl (some o)) :: S) N fi fr ai al := by
  subst hn
  rw [Nat.add_sub_cancel_left] at hd
  intro α H locs ls hO hl
  have k1 := k α H locs ls hO hl
  obtain ⟨-, -, -, -, hW, -⟩ := hO
  obtain ⟨ho, hs⟩ := isK_spec hK hW.2.2.2.2.1
  obtain ⟨cell, q1, q2, q3, q4⟩ := (hW.1 o ho).2.2.2.2 a hs
  rw [hn1 o hs] at q4
  obtain ⟨hSl, hfc, kC, hkC, hkind⟩ := hT.1 a _ hc
  obtain ⟨cf, kf, fi', f, hi, hsl⟩ := hSl b hb1
  refine W.getf hx hb hown hlink hi (u_facts hfc hkC (u_lays hts (cl_in hc) hb1) hi).1 q1 (by rw [q3]; exact fun h => by cases h) (v := cv α (fld d fi fr o b)) ?_ rfl rfl hd k1
  rw [hsl, q4 b hb1]
  unfold fva
  by_cases hi2 : isI (tyN a b) = true
  · rw [if_pos hi2]
    have hd2 := hk.mp hi2
    have : fld d fi fr o b = .inl (fi o b) := by
      unfold fld
      split
      · exact absurd (Or.inl rfl) hd2
      · exact absurd (Or.inr rfl) hd2
      · rfl
    rw [this]; rfl
  · rw [if_neg hi2]
    have hd2 : d = 1 ∨ d = 11 := Classical.not_not.mp fun z => hi2 (hk.mpr z)
    have : fld d fi fr o b = .inr (.inl (fr o b)) := by rcases hd2 with rfl | rfl <;> rfl
    rw [this]
    cases fr o b <;> rfl
end Heap1
