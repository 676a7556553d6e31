/-! what a callee is told and gives back; behind a call -/
def rmD (rf rl md N N' : Nat) : Room := { frames := rf, cells := N' - N, slots := ssum md N' - ssum md N, locals := rl }
def PcD (md : Nat) (G : gG) (sz0 sb scL : Nat) (scX : Nat → Int) (as : List av) (N : Nat) (fi : tF) (fr : tR) (ai : tF) (al : tL) : Array Value → State → Prop := va_Pc (as.map (cv (aa sz0 sb))) (fun U => TKx G U ∧ ((shp md N).1 ≠ 8 → U.heap.size = sz0 + N) ∧ Wd md G sz0 sb scL scX (aa sz0 sb) N fi fr ai al U U.heap)
def QcD (md : Nat) (G : gG) (sz0 sb scL : Nat) (scX : Nat → Int) (N' : Nat) (P : ot) : Array Value → State → Outcome → State → Prop := fun _ st o t => ∃ v fi fr ai al, o = .returned (v.map (cv (aa sz0 sb))) ∧ P (.inl v) fi fr ai al ∧ ((shp md N').1 ≠ 8 → t.heap.size = sz0 + N') ∧ Wd md G sz0 sb scL scX (aa sz0 sb) N' fi fr ai al t t.heap ∧ va_F (fun q => sz0 ≤ q) st t
def XcD (md : Nat) (G : gG) (sz0 sb scL : Nat) (scX : Nat → Int) (N' : Nat) (P : ot) : String → State → State → Prop := fun E st t => ∃ x fi fr ai al, E = xN x ∧ x < 3 ∧ P (.inr x) fi fr ai al ∧ ((shp md N').1 ≠ 8 → t.heap.size = sz0 + N') ∧ Wd md G sz0 sb scL scX (aa sz0 sb) N' fi fr ai al t t.heap ∧ va_F (fun q => sz0 ≤ q) st t
def cwD (y : Nat) : Cond := match (mi y).2.2.2.2.2.2 with
  | [] => .code (mi y).1 (mi y).2.1 (mi y).2.2.1 (mi y).2.2.2.1
  | hh => .codeWith (mi y).1 (mi y).2.1 (mi y).2.2.1 (mi y).2.2.2.1 hh
def wsD (y : Nat) : List Cond := cwD y :: gw
theorem PcD_blind {md : Nat} {G : gG} {sz0 sb scL : Nat} {scX : Nat → Int} {as : List av} {N : Nat} {fi : tF} {fr : tR} {ai : tF} {al : tL} : FrameBlind (PcD md G sz0 sb scL scX as N fi fr ai al) := fun a U g mk h => by
  obtain ⟨h1, h2, h3, h4⟩ := h
  exact ⟨h1, h2.warm (U := U.calling g mk a) (State.WarmedH.refl U), h3, h4.moved (U := U.calling g mk a) (Vm.Alike.refl U.vm)⟩
/-- every call that K allows is met -/
def KS (md scL : Nat) (scX : Nat → Int) (K : ct) (l : Launch) (rf rl : Nat) : Prop := ∀ (G : gG) (sz0 sb y : Nat) (as : List av) (N : Nat) (fi : tF) (fr : tR) (ai : tF) (al : tL) (N' : Nat) (P : ot), y < nM → as.length = (mi y).2.2.2.2.1 → N ≤ N' → N' < 999999 → K y as N fi fr ai al N' P →
  vx_Met l (mi y).1 (wsD y) (rmD rf rl md N N') (PcD md G sz0 sb scL scX as N fi fr ai al) (QcD md G sz0 sb scL scX N' P) (XcD md G sz0 sb scL scX N' P) (N' - N) (ssum md N' - ssum md N) (fun q => sz0 ≤ q)
theorem okM_spec {y : Nat} (h : okM y = true) : cwD y ∈ gw ∧ Cond.initialized (mi y).1.cls ∈ gw ∧
    ((mi y).2.2.2.2.2.1 = 1 → Cond.static (mi y).1 ∈ gw ∧ (parseMethodDescriptor (mi y).1.desc).map (fun d => d.parameters.length) = some (mi y).2.2.2.2.1) ∧
    ((mi y).2.2.2.2.2.1 ≠ 1 → Cond.instanceMethod (mi y).1 ∈ gw ∧ 1 ≤ (mi y).2.2.2.2.1 ∧ (parseMethodDescriptor (mi y).1.desc).map (fun d => d.parameters.length) = some ((mi y).2.2.2.2.1 - 1) ∧ ((mi y).2.2.2.2.2.1 = 0 → Cond.selects (mi y).1.cls (mi y).1 (mi y).1 ∈ gw) ∧ ((mi y).2.2.2.2.2.1 ≠ 0 → (mi y).1.name = "<init>" ∧ (mi y).2.2.2.1 = none)) ∧
    plainFor (mi y).1 = true ∧ (mi y).1.cls ≠ "java/lang/invoke/MethodHandle" ∧ (mi y).1.cls ≠ "java/lang/invoke/VarHandle" ∧ (mt y).2.2.1 = (mi y).2.2.1 ∧ (mi y).2.2.1 ≤ 40 ∧ ((mt y).2.2.2.1 = true ↔ (mi y).2.2.2.1 = some .boolean) ∧ okHd (mi y).2.1 (mi y).2.2.2.2.2.2 (mt y).2.2.2.2 = true := by
  unfold okM at h
  unfold cwD
  generalize mx y = X at h
  generalize mi y = M at h ⊢
  obtain ⟨nm, b, ml, ret, na, kd, hh⟩ := M
  obtain ⟨ic, ii, ik, isl⟩ := X
  simp only [Bool.and_eq_true, decide_eq_true_eq] at h
  obtain ⟨⟨⟨⟨⟨⟨⟨⟨⟨h1, h2⟩, h3⟩, h4⟩, h5⟩, h6⟩, h7⟩, h8⟩, h9⟩, h10⟩ := h
  refine ⟨?_, inT_spec h2, fun hk => ?_, fun hk => ?_, h4, h5, h6, Nat.eq_of_beq_eq_true h7, Nat.le_of_ble_eq_true h8, ?_, h10⟩
  · dsimp only
    cases hh with
    | nil => exact inT_spec h1
    | cons a t => exact inT_spec h1
  · dsimp only at hk ⊢
    subst hk
    simp only [Bool.and_eq_true, decide_eq_true_eq] at h3
    exact ⟨inT_spec h3.1, h3.2⟩
  · dsimp only at hk ⊢
    have h3' : (((inT ik (.instanceMethod nm) = true ∧ 1 ≤ na) ∧ (parseMethodDescriptor nm.desc).map (fun d => d.parameters.length) = some (na - 1)) ∧ (bif Nat.beq kd 0 then inT isl (.selects nm.cls nm nm) else decide (nm.name = "<init>") && decide (ret = none)) = true) := by
      revert h3
      split
      · exact absurd rfl hk
      · simp only [Bool.and_eq_true, decide_eq_true_eq]
        exact id
    obtain ⟨⟨⟨g1, g2⟩, g3⟩, g4⟩ := h3'
    refine ⟨inT_spec g1, g2, g3, fun q => ?_, fun q => ?_⟩
    · rw [q] at g4
      exact inT_spec g4
    · have : Nat.beq kd 0 = false := (Bool.not_eq_true _).mp (fun z => q (Nat.eq_of_beq_eq_true z))
      rw [this] at g4
      simp only [cond_false, Bool.and_eq_true, decide_eq_true_eq] at g4
      exact g4
  · have h9' := beq_iff_eq.mp h9
    dsimp only
    rw [h9', decide_eq_true_eq]
theorem spl_spec {k : List av → List av → Prop} : ∀ (n : Nat) (S acc : List av), spl n S acc k → ∃ r S', r.length = n ∧ S = r ++ S' ∧ k (r.reverse ++ acc) S'
  | 0, S, acc, h => ⟨[], S, rfl, rfl, h⟩
  | _ + 1, [], _, h => h.elim
  | n + 1, v :: S, acc, h => by
    obtain ⟨r, S', h1, h2, h3⟩ := spl_spec n S (v :: acc) h
    refine ⟨v :: r, S', by simp [h1], by simp [h2], ?_⟩
    simpa using h3
section Run
variable {md : Nat} {G : gG} {sz0 sb scL : Nat} {scX : Nat → Int} {N0 Nf : Nat} {nL : Nat} {p : Program} {l : Launch} {e : Env} {R : Room} {s : State} {m : MethodId} {args : Array Value} {below : List Frame} {meth : Method} {c : Code} {Q : State → Prop}
variable {cc : ByteArray} {pc np : Nat} {L : List (Option av)} {S S' : List av} {N N' : Nat} {fi : tF} {fr : tR} {ai : tF} {al : tL}
/-- where a thing of the class x lies thrown over the frame -/
def XV (md : Nat) (G : gG) (sz0 sb scL : Nat) (scX : Nat → Int) (N0 Nf nL : Nat) (p : Program) (l : Launch) (e : Env) (R : Room) (s : State) (m : MethodId) (args : Array Value) (below : List Frame) (meth : Method) (c : Code) (Q : State → Prop) : xt := fun pc x N fi fr ai al =>
  x < 3 → ∀ (H : Heap) (locs : List Loc) (ls : Array Slot) (rest : List Value) (q : Addr) (ce : Cell), OO md G sz0 sb scL scX s N0 Nf (aa sz0 sb) N fi fr ai al H locs → ls.size = nL → lv_wf ls → H[q]? = some ce → ce.vm = .none → s.vm.findClass (xN x) = some ce.cls → vx_W p l e R s m args below meth c H locs (N - N0) (ssum md N - ssum md N0) Q (F0 m pc ls rest) q
theorem xi_run {α : Nat → Nat} {H : Heap} {locs : List Loc} {ls : Array Slot} {a : Array Value} {stk : List Value} {P' : ot} (hO : OO md G sz0 sb scL scX s N0 Nf α N fi fr ai al H locs) (hl : lrel α L ls nL) (hNN : N ≤ N' ∧ N' ≤ Nf)
    (hr : vx_Run p l e R s m args below meth c H locs (N - N0) (ssum md N - ssum md N0) (N' - N) (ssum md N' - ssum md N) (F0 m pc ls stk) (S'.map (cv α)) (QcD md G sz0 sb scL scX N' P' a) (XcD md G sz0 sb scL scX N' P') (fun q => sz0 ≤ q))
    (kr : ∀ v fi' fr' ai' al', P' (.inl v) fi' fr' ai' al' → XW (OO md G sz0 sb scL scX s N0 Nf) (fun N => N - N0) (fun N => ssum md N - ssum md N0) nL p l e R s m args below meth c Q (pc + 3) L (v.toList ++ S') N' fi' fr' ai' al')
    (kx : ∀ x fi' fr' ai' al', P' (.inr x) fi' fr' ai' al' → XV md G sz0 sb scL scX N0 Nf nL p l e R s m args below meth c Q pc x N' fi' fr' ai' al') :
    W p l e R s m args below meth c H locs (N - N0) (ssum md N - ssum md N0) Q (F0 m pc ls stk) := by
  obtain ⟨hα, hN0, hNf, hsz0, hW0, hS0⟩ := hO
  subst hα
  have hs1 := ssum_mono md hN0
  have hs2 := ssum_mono md hNN.1
  have g1 : N - N0 + (N' - N) = N' - N0 := by omega
  have g2 : ssum md N - ssum md N0 + (ssum md N' - ssum md N) = ssum md N' - ssum md N0 := by omega
  intro T hT X
  rcases hr T hT X with ⟨v, st₀, t, T', L9, h0, X', hL, e1, e2, ⟨v', fi', fr', ai', al', hv, hP, hsz, hWd, hF⟩, st⟩ | ⟨q, st₀, t, T', L9, E, ce, h0, X', hL, e1, e2, ⟨x, fi', fr', ai', al', hE, hx3, hP, hsz, hWd, hF⟩, hce, hcv, hcl, st⟩
  · have hv' : v = v'.map (cv (aa sz0 sb)) := Outcome.returned.inj hv
    rw [g1, g2] at X'
    have hal : t.vm.Alike s.vm := by rw [← e2]; exact X'.warmed.alike.symm
    have hkp := vx_keep (A0 := fun q => sz0 ≤ q) (A1 := fun q => sz0 ≤ q) (free := fun q => sz0 ≤ q) h0 e1 hS0 (fun q _ h => h) (fun q h => h) hL hF
    have hO' : OO md G sz0 sb scL scX s N0 Nf (aa sz0 sb) N' fi' fr' ai' al' T'.heap (locs ++ L9) := ⟨rfl, by omega, hNN.2, by rw [e1]; exact hsz, by rw [e1]; exact hWd.moved hal, hkp.2.2⟩
    obtain ⟨t2, a1, b1⟩ := kr v' fi' fr' ai' al' hP (aa sz0 sb) T'.heap (locs ++ L9) ls hO' hl T' rfl X'
    refine ⟨t2, st t2 ?_, b1⟩
    have hstk : (v'.toList ++ S').map (cv (aa sz0 sb)) = v.toList ++ S'.map (cv (aa sz0 sb)) := by rw [hv']; cases v' <;> simp
    rw [hstk] at a1
    exact a1
  · subst hE
    rw [g1, g2] at X'
    have hal : t.vm.Alike s.vm := by rw [← e2]; exact X'.warmed.alike.symm
    have hkp := vx_keep (A0 := fun q => sz0 ≤ q) (A1 := fun q => sz0 ≤ q) (free := fun q => sz0 ≤ q) h0 e1 hS0 (fun q _ h => h) (fun q h => h) hL hF
    have hO' : OO md G sz0 sb scL scX s N0 Nf (aa sz0 sb) N' fi' fr' ai' al' T'.heap (locs ++ L9) := ⟨rfl, by omega, hNN.2, by rw [e1]; exact hsz, by rw [e1]; exact hWd.moved hal, hkp.2.2⟩
    obtain ⟨t2, a1, b1⟩ := kx x fi' fr' ai' al' hP hx3 T'.heap (locs ++ L9) ls (S'.map (cv (aa sz0 sb))) q ce hO' hl.1 hl.2.1 (by rw [e1]; exact hce) hcv hcl T' rfl X'
    exact ⟨t2, st.trans a1, b1⟩
/-- the three kinds of calls -/
theorem hh_none : ((List.range nM).all fun y => Nat.beq (mi y).2.2.2.2.2.1 1 || (mi y).2.2.2.2.2.2.isEmpty) = true := by decide +kernel
theorem gw_warm (hts : ∀ w ∈ gw, w.before args s = true) {y : Nat} (hM : okM y = true) : ∀ w ∈ wsD y, ∀ (a' : Array Value) (U : State), s.WarmedH U.vm → w.before a' U = true := by
  intro w hw a' U hW
  have hg : w ∈ gw := by
    rcases List.mem_cons.mp hw with rfl | h
    · exact (okM_spec hM).1
    · exact h
  exact word_at hW (gw_self w hg).2 (hts w hg)
theorem xi_inv {K : ct} {rf rl a b rc : Nat} {own : String} {idx : Nat} (hKS : KS md scL scX K l rf rl) (hx : p.tables.exec = Jvm.exec) (hb : c.code = cc) (hml : c.maxLocals = nL) (hown : s.vm.findClass own = some m.cls) (hts : ∀ w ∈ gw, w.before args s = true) (hT : TKx G s)
    (hR : rf + 1 ≤ R.frames ∧ 60 + rl ≤ R.locals) (hRc : Nf - N0 ≤ R.cells) (hRs : ssum md Nf - ssum md N0 ≤ R.slots) (hNf : Nf < 999999) (ha : a < nM) (hM : okM a = true) (hbn : b = (mi a).2.2.2.2.1) (hn : np = pc + 3)
    (hkind : (decode cc pc = .ok (.invokevirtual idx, 3) ∧ (mi a).2.2.2.2.2.1 = 0 ∧ rc < 100 ∧ (classes[rc]?).map (fun q => q.1) = some (mi a).1.cls ∧ Cond.methodLink own idx (mi a).1 ∈ gw) ∨ (decode cc pc = .ok (.invokestatic idx, 3) ∧ (mi a).2.2.2.2.2.1 = 1 ∧ rc = 100 ∧ Cond.methodLink own idx (mi a).1 ∈ gw) ∨ (decode cc pc = .ok (.invokespecial idx, 3) ∧ (mi a).2.2.2.2.2.1 = 2 ∧ rc = 101 ∧ (Cond.methodLink own idx (mi a).1 ∈ gw ∨ ∃ q ∈ nws, q.1 = own ∧ q.2.1 = idx ∧ q.2.2.1 = (mi a).1)))
    (k : inv md K (XV md G sz0 sb scL scX N0 Nf nL p l e R s m args below meth c Q) Nf (XW (OO md G sz0 sb scL scX s N0 Nf) (fun N => N - N0) (fun N => ssum md N - ssum md N0) nL p l e R s m args below meth c Q) a b rc pc np L S N fi fr ai al) :
    XW (OO md G sz0 sb scL scX s N0 Nf) (fun N => N - N0) (fun N => ssum md N - ssum md N0) nL p l e R s m args below meth c Q pc L S N fi fr ai al := by
  subst hn
  obtain ⟨r, S', hr1, hr2, k2⟩ := spl_spec _ _ _ k
  clear k
  rw [List.append_nil] at k2
  generalize has : r.reverse = as at k2
  have hlen : as.length = b := by rw [← has, List.length_reverse, hr1]
  have hS : S = as.reverse ++ S' := by rw [← has, List.reverse_reverse]; exact hr2
  subst hS
  revert k2
  split
  case h_2 => exact False.elim
  rename_i hbool
  rw [Bool.and_eq_true] at hbool
  have hws := Nat.le_of_ble_eq_true hbool.1
  have hrc := hbool.2
  rintro ⟨N', hNN, hK⟩
  intro α H locs ls hO hl
  refine (fun (PP : ot) hv hx9 hK9 => ?_ : ∀ PP : ot, (∀ v fi' fr' ai' al', PP (.inl v) fi' fr' ai' al' → XW (OO md G sz0 sb scL scX s N0 Nf) (fun N => N - N0) (fun N => ssum md N - ssum md N0) nL p l e R s m args below meth c Q (pc + 3) L (v.toList ++ S') N' fi' fr' ai' al') →
    (∀ x fi' fr' ai' al', PP (.inr x) fi' fr' ai' al' → XV md G sz0 sb scL scX N0 Nf nL p l e R s m args below meth c Q pc x N' fi' fr' ai' al') → K a as N fi fr ai al N' PP → W p l e R s m args below meth c H locs (N - N0) (ssum md N - ssum md N0) Q (F0 m pc ls ((as.reverse ++ S').map (cv α)))) _ (fun v fi' fr' ai' al' h => ?_) (fun x fi' fr' ai' al' h => h) hK
  case refine_2 =>
    cases v with
    | none => exact h
    | some v => exact h
  clear hK
  have hWd := hO.2.2.2.2.1
  have hMet := hKS G sz0 sb a as N fi fr ai al N' _ ha (by rw [hlen, hbn]) hNN.1 (by omega) hK9
  obtain ⟨m1, m2, m3, m4, -, m5, m6, -, m7, -, -⟩ := okM_spec hM
  have hs1 := ssum_mono md hO.2.1
  have hs2 := ssum_mono md hNN.1
  have hs3 := ssum_mono md hNN.2
  have hN0 := hO.2.1
  have hfits : N - N0 + (N' - N) ≤ R.cells ∧ ssum md N - ssum md N0 + (ssum md N' - ssum md N) ≤ R.slots := ⟨by omega, by omega⟩
  have hWS : 2 * (F0 m pc ls ((as.reverse ++ S').map (cv α))).monitorRoom + ((S'.map (cv α)).map fun v => v.category).sum ≤ 8 := by
    show 2 * 0 + _ ≤ 8
    rw [wsum_cat]; omega
  have hlo : 8 + ((mi a).2.2.1 + 11) + (rmD rf rl md N N').locals ≤ R.locals := by show 8 + (_ + 11) + rl ≤ _; omega
  have hstk : (as.reverse ++ S').map (cv α) = (as.map (cv α)).reverse ++ S'.map (cv α) := by rw [List.map_append, List.map_reverse]
  have hpre : ∀ U : State, U.heap = H → s.WarmedH U.vm → PcD md G sz0 sb scL scX as N fi fr ai al (as.map (cv α)).toArray U := fun U hU hW => ⟨by rw [hO.1], hT.warm hW, by rw [hU]; exact hO.2.2.2.1, by rw [hU, ← hO.1]; exact hWd.moved hW.alike⟩
  refine xi_run (a := (as.map (cv α)).toArray) hO hl hNN ?_ hv hx9
  · rcases hkind with ⟨hd, hk, hrc1, hcl, hlk⟩ | ⟨hd, hk, hrc1, hlk⟩ | ⟨hd, hk, hrc1, hlk⟩
    · obtain ⟨n1, n2, n3, n4, -⟩ := m4 (by omega)
      have hhn : (mi a).2.2.2.2.2.2 = [] := by
        have := List.all_eq_true.mp hh_none a (List.mem_range.mpr ha)
        rw [hk] at this
        exact List.isEmpty_iff.mp (by simpa using this)
      have hcw : cwD a = .code (mi a).1 (mi a).2.1 (mi a).2.2.1 (mi a).2.2.2.1 := by unfold cwD; rw [hhn]
      match as, hrc, hlen, hstk, hpre, hMet with
      | [], hrc, _, _, _, _ =>
        have : rc = 100 := Nat.eq_of_beq_eq_true hrc
        omega
      | .inl _ :: _, hrc, _, _, _, _ =>
        have : rc = 100 := Nat.eq_of_beq_eq_true hrc
        omega
      | .inr (.inr _) :: _, hrc, _, _, _, _ =>
        have : rc = 100 := Nat.eq_of_beq_eq_true hrc
        omega
      | .inr (.inl none) :: _, hrc, _, _, _, _ =>
        have : rc = 100 := Nat.eq_of_beq_eq_true hrc
        omega
      | .inr (.inl (some o)) :: as', hrc, hlen, hstk, hpre, hMet =>
        have hble : Nat.ble 100 rc = false := (Bool.not_eq_true _).mp (fun z => by have := Nat.le_of_ble_eq_true z; omega)
        have hKo : isK md o (10 + rc) N = true := by
          unfold rcv at hrc
          rw [hble] at hrc
          exact hrc
        obtain ⟨ho, hso⟩ := isK_spec hKo hWd.2.2.2.2.1
        obtain ⟨cell, q1, q2, q3, -⟩ := (hWd.1 o ho).2.2.2.2 rc hso
        obtain ⟨⟨C, T, n⟩, hcq, hCn⟩ := Option.map_eq_some_iff.mp hcl
        have hKn := hT.1.1 rc _ hcq
        rw [hstk]
        refine vx_runV (C := (mi a).1.cls) (b := α o) (As := as'.map (cv α)) (n := (mi a).2.2.2.2.1 - 1) ⟨hx, hb, hml, hown, hts⟩ hMet
          ⟨⟨rfl, rfl, hR.1, hlo, gw_warm hts hM, by rw [← hcw]; exact List.mem_cons_self, by rw [← hcw]; exact hts _ m1, hts _ m2, ⟨m5, m6⟩, fun sig h => by rw [h] at n3; exact (Option.some.inj n3).symm, hts _ hlk⟩, hts _ n1, hts _ (n4 hk)⟩
          ⟨PcD_blind, ⟨cell, q1, by rw [q3]; rfl, by rw [q2, ← hCn]; exact hKn.2.1⟩, hpre⟩ rfl (by rw [List.length_map, ← hbn, ← hlen]; rfl) hl.1 (by simp [cv]) hWS hd hfits
    · obtain ⟨n1, n2⟩ := m3 hk
      rw [hstk]
      by_cases hhn : (mi a).2.2.2.2.2.2 = []
      · have hcw : cwD a = .code (mi a).1 (mi a).2.1 (mi a).2.2.1 (mi a).2.2.2.1 := by unfold cwD; rw [hhn]
        exact vx_runS (As := as.map (cv α)) (n := (mi a).2.2.2.2.1) ⟨hx, hb, hml, hown, hts⟩ hMet
          ⟨⟨rfl, rfl, hR.1, hlo, gw_warm hts hM, by rw [← hcw]; exact List.mem_cons_self, by rw [← hcw]; exact hts _ m1, hts _ m2, ⟨m5, m6⟩, fun sig h => by rw [h] at n2; exact (Option.some.inj n2).symm, hts _ hlk⟩, hts _ n1⟩
          ⟨PcD_blind, hpre⟩ rfl (by rw [List.length_map, ← hbn, ← hlen]) hl.1 rfl hWS hd hfits
      · have hcw : cwD a = .codeWith (mi a).1 (mi a).2.1 (mi a).2.2.1 (mi a).2.2.2.1 (mi a).2.2.2.2.2.2 := by
          unfold cwD
          revert hhn
          generalize (mi a).2.2.2.2.2.2 = hh
          cases hh with
          | nil => exact fun h => absurd rfl h
          | cons _ _ => exact fun _ => rfl
        exact vx_runSX (As := as.map (cv α)) (n := (mi a).2.2.2.2.1) ⟨hx, hb, hml, hown, hts⟩ hMet
          ⟨⟨rfl, rfl, hR.1, hlo, gw_warm hts hM, by rw [← hcw]; exact List.mem_cons_self⟩, by rw [← hcw]; exact hts _ m1, hts _ m2, ⟨m5, m6⟩, fun sig h => by rw [h] at n2; exact (Option.some.inj n2).symm, hts _ hlk, hts _ n1⟩
          ⟨PcD_blind, hpre⟩ rfl (by rw [List.length_map, ← hbn, ← hlen]) hl.1 rfl hWS hd hfits
    · obtain ⟨n1, n2, n3, -, n4⟩ := m4 (by omega)
      obtain ⟨n5, n6⟩ := n4 (by omega)
      have hhn : (mi a).2.2.2.2.2.2 = [] := by
        have := List.all_eq_true.mp hh_none a (List.mem_range.mpr ha)
        rw [hk] at this
        exact List.isEmpty_iff.mp (by simpa using this)
      have hcw : cwD a = .code (mi a).1 (mi a).2.1 (mi a).2.2.1 none := by unfold cwD; rw [hhn, n6]
      match as, hrc, hlen, hstk, hpre, hMet with
      | [], hrc, _, _, _, _ =>
        have : rc = 100 := Nat.eq_of_beq_eq_true hrc
        omega
      | .inl _ :: _, hrc, _, _, _, _ =>
        have : rc = 100 := Nat.eq_of_beq_eq_true hrc
        omega
      | .inr (.inr _) :: _, hrc, _, _, _, _ =>
        have : rc = 100 := Nat.eq_of_beq_eq_true hrc
        omega
      | .inr (.inl none) :: _, hrc, _, _, _, _ =>
        have : rc = 100 := Nat.eq_of_beq_eq_true hrc
        omega
      | .inr (.inl (some o)) :: as', hrc, hlen, hstk, hpre, hMet =>
        rw [hstk]
        refine vy_runI (b := α o) (As := as'.map (cv α)) (n := (mi a).2.2.2.2.1 - 1) (maxL := (mi a).2.2.1) ⟨hx, hb, hml, hown, hts⟩ hMet rfl rfl hR.1 hlo (gw_warm hts hM) (by rw [← hcw]; exact List.mem_cons_self) (by rw [← hcw]; exact hts _ m1) (hts _ m2) ⟨m5, m6⟩ (fun sig h => by rw [h] at n3; exact (Option.some.inj n3).symm)
          (by
            rcases hlk with h | ⟨q, hq, h1, h2, h3⟩
            · exact Or.inl (hts _ h)
            · refine Or.inr ⟨q.2.2.2, ?_⟩
              rw [← h1, ← h2, ← h3]
              exact va_Nw.use rfl (hT.2.1 q hq)) n5 (hts _ n1) ⟨PcD_blind, hpre⟩ rfl (by rw [List.length_map, ← hbn, ← hlen]; rfl) hl.1 (by simp [cv]) hWS hd hfits
end Run
