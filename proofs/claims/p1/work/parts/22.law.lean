/-! THE LAW'S OWN CODE, from its start to its end (what stands up to lw_At is the skeleton's) -/
def R_law : String := "RivalMillsLaw"
def lw_P (b : Addr) (xs : List Int32) (args : Array Value) (s : State) : Prop := args = #[.ref b] ∧ s.IntsAt b xs ∧ xs.length ≤ 6 ∧ (Jvm.Cond.and given_1 narrow_1).before args s = true
def lw_Q (_ : Array Value) (s : State) (o : Outcome) (t : State) : Prop := o = .returned (some (.int 1)) ∧ Framed s o t [] 600002 7302232
def lw_Z (below : List Frame) (a : Array Value) (s : State) : State → Prop := fun t => ∃ o, t.status = .running ∧ Ended t below o ∧ lw_Q a s o t
/-- the law's own end, with 1 on the stack, nothing written that was there before, its room as the claim has it -/
theorem lw_ret {p : Program} {l : Launch} {e : Env} {s : State} {m : MethodId} {below : List Frame} {meth : Method} {c : Code} {b : Nat} (hx : p.tables.exec = Jvm.exec) (hb : c.code = code) (hr : meth.sig.returnType = ret) (hlocks : meth.locks = false) {pc : Nat} {H : Heap} {ls : Array Slot} (hdg : decode code pc = .ok (.ireturn, 1)) : W p l e room_1 s m #[Value.ref b] below meth c H [] 600002 7302232 (lw_Z below #[Value.ref b] s) (F0 m pc ls [.int 1]) := by
  intro T hT X
  obtain ⟨fs, hret, hrun, hended, hW, hframe⟩ := X.leave (v := some (.int 1)) (hlocks := hlocks) (fun h => by rw [hr] at h; cases h)
  have hmeth' : T.vm.method? m = some meth := X.method'
  refine ⟨T.setFrames fs, ?_, .returned (some (.int 1)), hrun, hended, rfl, ⟨_, rfl⟩, hW, hframe⟩
  jvm_step X.here [X.here.top, hx, hb, hdg, hmeth', hr, ret, narrow_b1]
  (try refine ⟨rfl, ?_⟩); (try refine ⟨rfl, ?_⟩)
  first | (intro acts; rw [hret _ acts rfl rfl rfl]) | rw [hret _ _ rfl rfl rfl]
  exact Steps.refl _
/-- what holds at the law's entry: the machine, the code, the tables' words (any of lw_tbl by 'hts w (by decide +kernel)'), the script of L ints xs at the cell b, what the Statement gives of the start (any of its parts by flat_of_before) -/
def lw_At (p : Program) (s : State) (m : MethodId) (meth : Method) (c : Code) (b L : Nat) (xs : Nat → Int32) : Prop :=
  p.tables.exec = Jvm.exec ∧ c.code = code ∧ meth.sig.returnType = ret ∧ c.maxLocals = 7 ∧ s.vm.findClass R_law = some m.cls ∧ (∀ w ∈ lw_tbl, w.before #[Value.ref b] s = true) ∧ va_X b L xs s s.heap ∧ b < s.heap.size ∧ meth.locks = false ∧ (Jvm.Cond.and given_1 narrow_1).before #[Value.ref b] s = true
def okLp (pc : Nat) : Bool := okE "RivalMillsLaw" false 7 code pc (cd_L_law pc)
theorem okLw_0 : ((List.range' 0 80).all okLp) = true := by decide +kernel
theorem okLw_1 : ((List.range' 80 80).all okLp) = true := by decide +kernel
theorem okLw_2 : ((List.range' 160 80).all okLp) = true := by decide +kernel
theorem okLw_3 : ((List.range' 240 80).all okLp) = true := by decide +kernel
theorem okLw_4 : ((List.range' 320 80).all okLp) = true := by decide +kernel
theorem okLw_5 : ((List.range' 400 80).all okLp) = true := by decide +kernel
theorem okLw_6 : ((List.range' 480 80).all okLp) = true := by decide +kernel
theorem okLw_7 : ((List.range' 560 80).all okLp) = true := by decide +kernel
theorem okLw_8 : ((List.range' 640 80).all okLp) = true := by decide +kernel
theorem okLw_9 : ((List.range' 720 80).all okLp) = true := by decide +kernel
theorem okLw_10 : ((List.range' 800 80).all okLp) = true := by decide +kernel
theorem okLw_11 : ((List.range' 880 80).all okLp) = true := by decide +kernel
theorem okLw_12 : ((List.range' 960 80).all okLp) = true := by decide +kernel
theorem okLw_13 : ((List.range' 1040 80).all okLp) = true := by decide +kernel
theorem okLw_14 : ((List.range' 1120 80).all okLp) = true := by decide +kernel
theorem okLw_15 : ((List.range' 1200 80).all okLp) = true := by decide +kernel
theorem okLw_16 : ((List.range' 1280 80).all okLp) = true := by decide +kernel
theorem okLw_17 : ((List.range' 1360 80).all okLp) = true := by decide +kernel
theorem okLw_18 : ((List.range' 1440 80).all okLp) = true := by decide +kernel
theorem okLw_19 : ((List.range' 1520 80).all okLp) = true := by decide +kernel
theorem okLw_20 : ((List.range' 1600 80).all okLp) = true := by decide +kernel
theorem okLw_21 : ((List.range' 1680 80).all okLp) = true := by decide +kernel
theorem okLw_22 : ((List.range' 1760 80).all okLp) = true := by decide +kernel
theorem okLw_23 : ((List.range' 1840 80).all okLp) = true := by decide +kernel
theorem okLw_24 : ((List.range' 1920 80).all okLp) = true := by decide +kernel
theorem okLw_25 : ((List.range' 2000 80).all okLp) = true := by decide +kernel
theorem okLw_26 : ((List.range' 2080 80).all okLp) = true := by decide +kernel
theorem okLw_27 : ((List.range' 2160 80).all okLp) = true := by decide +kernel
theorem okLw_28 : ((List.range' 2240 80).all okLp) = true := by decide +kernel
theorem okLw_29 : ((List.range' 2320 58).all okLp) = true := by decide +kernel
theorem okL_get {a n pc : Nat} (h : ((List.range' a n).all okLp) = true) (h1 : a ≤ pc) (h2 : pc < a + n) : okLp pc = true := List.all_eq_true.mp h pc (List.mem_range'_1.mpr ⟨h1, h2⟩)
theorem okLw {pc : Nat} (h : pc < 2378) : okLp pc = true := by
  by_cases h0 : pc < 80
  · exact okL_get okLw_0 (by omega) (by omega)
  by_cases h1 : pc < 160
  · exact okL_get okLw_1 (by omega) (by omega)
  by_cases h2 : pc < 240
  · exact okL_get okLw_2 (by omega) (by omega)
  by_cases h3 : pc < 320
  · exact okL_get okLw_3 (by omega) (by omega)
  by_cases h4 : pc < 400
  · exact okL_get okLw_4 (by omega) (by omega)
  by_cases h5 : pc < 480
  · exact okL_get okLw_5 (by omega) (by omega)
  by_cases h6 : pc < 560
  · exact okL_get okLw_6 (by omega) (by omega)
  by_cases h7 : pc < 640
  · exact okL_get okLw_7 (by omega) (by omega)
  by_cases h8 : pc < 720
  · exact okL_get okLw_8 (by omega) (by omega)
  by_cases h9 : pc < 800
  · exact okL_get okLw_9 (by omega) (by omega)
  by_cases h10 : pc < 880
  · exact okL_get okLw_10 (by omega) (by omega)
  by_cases h11 : pc < 960
  · exact okL_get okLw_11 (by omega) (by omega)
  by_cases h12 : pc < 1040
  · exact okL_get okLw_12 (by omega) (by omega)
  by_cases h13 : pc < 1120
  · exact okL_get okLw_13 (by omega) (by omega)
  by_cases h14 : pc < 1200
  · exact okL_get okLw_14 (by omega) (by omega)
  by_cases h15 : pc < 1280
  · exact okL_get okLw_15 (by omega) (by omega)
  by_cases h16 : pc < 1360
  · exact okL_get okLw_16 (by omega) (by omega)
  by_cases h17 : pc < 1440
  · exact okL_get okLw_17 (by omega) (by omega)
  by_cases h18 : pc < 1520
  · exact okL_get okLw_18 (by omega) (by omega)
  by_cases h19 : pc < 1600
  · exact okL_get okLw_19 (by omega) (by omega)
  by_cases h20 : pc < 1680
  · exact okL_get okLw_20 (by omega) (by omega)
  by_cases h21 : pc < 1760
  · exact okL_get okLw_21 (by omega) (by omega)
  by_cases h22 : pc < 1840
  · exact okL_get okLw_22 (by omega) (by omega)
  by_cases h23 : pc < 1920
  · exact okL_get okLw_23 (by omega) (by omega)
  by_cases h24 : pc < 2000
  · exact okL_get okLw_24 (by omega) (by omega)
  by_cases h25 : pc < 2080
  · exact okL_get okLw_25 (by omega) (by omega)
  by_cases h26 : pc < 2160
  · exact okL_get okLw_26 (by omega) (by omega)
  by_cases h27 : pc < 2240
  · exact okL_get okLw_27 (by omega) (by omega)
  by_cases h28 : pc < 2320
  · exact okL_get okLw_28 (by omega) (by omega)
  by_cases h29 : pc < 2378
  · exact okL_get okLw_29 (by omega) (by omega)
  omega
theorem okLs : ((List.range 2378).all fun pc => ns3 (cd_L_law pc)) = true := by decide +kernel
theorem mt_law : mt 248 = (cd_L_law, 2378, 7, true, []) := rfl
theorem arrT_of {s : State} {c : ClassId} {k : Class} {comp : ClassId} {t : FieldType} (h1 : s.vm.classes[c]? = some k) (h2 : k.kind = .array comp t) : ArrOfT s c t := fun _ _ => ⟨(fun _ h => nomatch h), k, h1, comp, h2⟩
theorem nws_in : (nws.all fun q => decide (Cond.methodLinkNest q.1 q.2.1 q.2.2.1 q.2.2.2 ∈ lw_tbl)) = true := by decide +kernel
theorem cst_in : ∀ x, x < 3 → Cond.castable (xN x) (xN x) ∈ lw_tbl := by decide +kernel
theorem dcl_in : ∀ n ∈ (["java/lang/RuntimeException", "java/lang/Exception", Bundle.tN] : List String), Cond.declares (Bundle.init0 n) ∈ lw_tbl := by decide +kernel
theorem ncs_in : ∀ x, x < 3 → ∀ y, y < 3 → x ≠ y → Cond.not (.castable (xN x) (xN y)) ∈ flatC (Jvm.Cond.and given_1 narrow_1) := by decide +kernel
theorem gw_sub {w : Cond} (h : w ∈ gw) : w ∈ lw_tbl := (List.mem_filter.mp h).1
/-- what the tables say at the law's start -/
theorem tk_of {s : State} {A : Array Value} (hts : ∀ w ∈ lw_tbl, w.before A s = true) (hgv : (Jvm.Cond.and given_1 narrow_1).before A s = true) : ∃ G : gG, TKx G s := by
  have hC : ∀ k : Nat, ∃ x : ClassId × (Nat → Nat), ∀ q, classes[k]? = some q → u_Kn s q.1 q.2.1 q.2.2 x.1 x.2 := by
    intro k
    cases hk : classes[k]? with
    | none => exact ⟨(0, fun _ => 0), fun q hq => nomatch hq⟩
    | some q =>
      obtain ⟨cC, iS, h⟩ := u_known (n := q.2.2) hts (fun w hw => gw_sub (cl_in hk w hw)) (hts _ (gw_sub (cl_new hk).1))
      exact ⟨(cC, iS), fun q' hq => by cases Option.some.inj hq; exact h⟩
  obtain ⟨cI, kI, xI, i1, i2, i3⟩ := Cond.arrayClass_spec (hts _ (gw_sub (ar_words 0 (by decide))))
  obtain ⟨cB, kB, xB, b1, b2, b3⟩ := Cond.arrayClass_spec (hts _ (gw_sub (ar_words 1 (by decide))))
  obtain ⟨cJ, kJ, xJ, j1, j2, j3⟩ := Cond.arrayClass_spec (hts _ (gw_sub (ar_words 2 (by decide))))
  have hov := hts (Cond.arrayOver (.array .int)) (by decide +kernel)
  obtain ⟨x2, c2, k2, -, a2, a3, a1⟩ := Cond.arrayOver_specA hov
  refine ⟨(fun k => (Classical.choose (hC k)).1, fun k => (Classical.choose (hC k)).2, fun k => match k with | 0 => cI | 1 => cB | 2 => cJ | _ => c2), ⟨fun k q hq => Classical.choose_spec (hC k) q hq, fun k q hq => ?_⟩, fun q hq => ?_, ?_, fun x hx => ?_, fun x y hx hy hn => ?_, fun n hn => ?_⟩
  · match k, hq with
    | 0, hq => cases Option.some.inj hq; exact ⟨arrT_of i2 i3, i1⟩
    | 1, hq => cases Option.some.inj hq; exact ⟨arrT_of b2 b3, b1⟩
    | 2, hq => cases Option.some.inj hq; exact ⟨arrT_of j2 j3, j1⟩
    | 3, hq => cases Option.some.inj hq; exact ⟨arrT_of a2 a3, a1⟩
    | _ + 4, hq => cases hq
  · exact va_Nw.of rfl (hts _ (of_decide_eq_true (List.all_eq_true.mp nws_in q hq)))
  · first
    | exact hov
    | (unfold Cond.before Cond.holds at hov ⊢
       simpa only [Cond.value] using hov)
  · exact va_Nw.of rfl (hts _ (cst_in x hx))
  · exact va_Nc.of (flat_of_before _ hgv _ (ncs_in x hx y hy hn))
  · exact va_Nw.of rfl (hts _ (dcl_in n hn))
/-- the two modes of one shape are one -/
theorem shp_10 {md : Nat} (hmd : md < 3) (i : Nat) : shp (10 + md) i = shp md i := by
  rcases (show md = 0 ∨ md = 1 ∨ md = 2 by omega) with rfl | rfl | rfl <;> rfl
theorem ssum_10 {md : Nat} (hmd : md < 3) : ∀ n, ssum (10 + md) n = ssum md n
  | 0 => rfl
  | n + 1 => by show ssum (10 + md) n + _ = ssum md n + _; rw [ssum_10 hmd n, shp_10 hmd]
theorem cok_10 {md : Nat} (hmd : md < 3) {G : gG} {α : Nat → Nat} {fi : tF} {fr : tR} {ai : tF} {al : tL} {i : Nat} {H : Heap} : cok (10 + md) G α fi fr ai al i H ↔ cok md G α fi fr ai al i H := by
  unfold cok
  rw [shp_10 hmd]
theorem realC_10 {md : Nat} (hmd : md < 3) {i : Nat} : realC (10 + md) i ↔ realC md i := by
  unfold realC
  rw [shp_10 hmd]
theorem Wd_10 {md : Nat} (hmd : md < 3) {G : gG} {sz0 sb scL : Nat} {scX : Nat → Int} {α : Nat → Nat} {N : Nat} {fi : tF} {fr : tR} {ai : tF} {al : tL} {U : State} {H : Heap} (hN : 233 ≤ N) : Wd (10 + md) G sz0 sb scL scX α N fi fr ai al U H ↔ Wd md G sz0 sb scL scX α N fi fr ai al U H := by
  unfold Wd
  constructor
  · rintro ⟨h1, h2, h3, h4, h5, h6⟩
    exact ⟨fun i hi => (cok_10 hmd).mp (h1 i hi), fun i j hi hj ri rj => h2 i j hi hj ((realC_10 hmd).mpr ri) ((realC_10 hmd).mpr rj), fun i hi ri => h3 i hi ((realC_10 hmd).mpr ri), h4, fun _ => hN, h6⟩
  · rintro ⟨h1, h2, h3, h4, h5, h6⟩
    exact ⟨fun i hi => (cok_10 hmd).mpr (h1 i hi), fun i j hi hj ri rj => h2 i j hi hj ((realC_10 hmd).mp ri) ((realC_10 hmd).mp rj), fun i hi ri => h3 i hi ((realC_10 hmd).mp ri), h4, fun _ => hN, h6⟩
/-- the calls of the law: while the objects are made, and behind that -/
def KL (md scL : Nat) (scX : Nat → Int) (d : Nat) : ct := fun y as N fi fr ai al N' P => match Nat.ble 233 N with
  | false => Call (10 + md) scL scX d y as N fi fr ai al N' P
  | true => Call md scL scX d y as N fi fr ai al N' P
theorem KL_mono (md scL : Nat) (scX : Nat → Int) (d : Nat) : cMono (KL md scL scX d) := by
  intro y as N fi fr ai al N' P P' h
  unfold KL
  split
  · exact Call_mono _ _ _ _ _ _ _ _ _ _ _ _ _ _ h
  · exact Call_mono _ _ _ _ _ _ _ _ _ _ _ _ _ _ h
theorem PcD_10 {md : Nat} (hmd : md < 3) {G : gG} {sz0 sb scL : Nat} {scX : Nat → Int} {as : List av} {N : Nat} {fi : tF} {fr : tR} {ai : tF} {al : tL} (hN : 233 ≤ N) : PcD (10 + md) G sz0 sb scL scX as N fi fr ai al = PcD md G sz0 sb scL scX as N fi fr ai al := by
  funext a U
  refine propext ⟨?_, ?_⟩
  · rintro ⟨h1, h2, h3, h4⟩
    exact ⟨h1, h2, fun q => h3 (by rw [shp_10 hmd]; exact q), (Wd_10 hmd hN).mp h4⟩
  · rintro ⟨h1, h2, h3, h4⟩
    exact ⟨h1, h2, fun q => h3 (by rw [shp_10 hmd] at q; exact q), (Wd_10 hmd hN).mpr h4⟩
theorem QcD_10 {md : Nat} (hmd : md < 3) {G : gG} {sz0 sb scL : Nat} {scX : Nat → Int} {N : Nat} {P : ot} (hN : 233 ≤ N) : QcD (10 + md) G sz0 sb scL scX N P = QcD md G sz0 sb scL scX N P := by
  funext a st o t
  refine propext ⟨?_, ?_⟩
  · rintro ⟨v, fi, fr, ai, al, h1, h2, h3, h4, h5⟩
    exact ⟨v, fi, fr, ai, al, h1, h2, fun q => h3 (by rw [shp_10 hmd]; exact q), (Wd_10 hmd hN).mp h4, h5⟩
  · rintro ⟨v, fi, fr, ai, al, h1, h2, h3, h4, h5⟩
    exact ⟨v, fi, fr, ai, al, h1, h2, fun q => h3 (by rw [shp_10 hmd] at q; exact q), (Wd_10 hmd hN).mpr h4, h5⟩
theorem XcD_10 {md : Nat} (hmd : md < 3) {G : gG} {sz0 sb scL : Nat} {scX : Nat → Int} {N : Nat} {P : ot} (hN : 233 ≤ N) : XcD (10 + md) G sz0 sb scL scX N P = XcD md G sz0 sb scL scX N P := by
  funext E st t
  refine propext ⟨?_, ?_⟩
  · rintro ⟨v, fi, fr, ai, al, h0, h1, h2, h3, h4, h5⟩
    exact ⟨v, fi, fr, ai, al, h0, h1, h2, fun q => h3 (by rw [shp_10 hmd]; exact q), (Wd_10 hmd hN).mp h4, h5⟩
  · rintro ⟨v, fi, fr, ai, al, h0, h1, h2, h3, h4, h5⟩
    exact ⟨v, fi, fr, ai, al, h0, h1, h2, fun q => h3 (by rw [shp_10 hmd] at q; exact q), (Wd_10 hmd hN).mpr h4, h5⟩
theorem KL_sound {md scL : Nat} {scX : Nat → Int} {l : Launch} (hmd : md < 3) (hlt : l.stackTraces = false) (hsc : scL < 2147483648) (d : Nat) : KS (10 + md) scL scX (KL md scL scX d) l (10 + d) (200 + 60 * d) := by
  intro G sz0 sb y as N fi fr ai al N' P hy hlen hNN hN' h
  unfold KL at h
  revert h
  split
  · exact fun h => Call_sound hlt hsc d G sz0 sb y as N fi fr ai al N' P hy hlen hNN hN' h
  · rename_i hb
    have hN := Nat.le_of_ble_eq_true hb
    intro h
    have h2 := Call_sound (md := md) hlt hsc d G sz0 sb y as N fi fr ai al N' P hy hlen hNN hN' h
    rw [PcD_10 hmd hN, QcD_10 hmd (by omega), XcD_10 hmd (by omega), ssum_10 hmd, ssum_10 hmd]
    have e : rmD (10 + d) (200 + 60 * d) (10 + md) N N' = rmD (10 + d) (200 + 60 * d) md N N' := by unfold rmD; rw [ssum_10 hmd, ssum_10 hmd]
    rw [e]
    exact h2
/-- the law answers true -/
def PL : ot := fun o _ _ _ _ => o = .inl (some (.inl 1))
def z0 : tF := fun _ _ => 0
def z1 : tR := fun _ _ => none
def z2 : tL := fun _ _ => 0
theorem ssum_le : ssum 10 244 ≤ 7302232 ∧ ssum 11 244 ≤ 7302232 ∧ ssum 12 244 ≤ 7302232 := by decide +kernel
theorem zt_in : Cond.laysStatic Bundle.tN "UNASSIGNED_STACK" Bundle.steD ∈ lw_tbl ∧ Cond.laysStatic Bundle.tN "SUPPRESSED_SENTINEL" Bundle.listD ∈ lw_tbl ∧ Cond.initialized Bundle.tN ∈ lw_tbl := by decide +kernel
theorem zn_in : Cond.isRef (.static Bundle.tN "UNASSIGNED_STACK" Bundle.steD) ∈ flatC (Jvm.Cond.and given_1 narrow_1) ∧ Cond.isRef (.static Bundle.tN "SUPPRESSED_SENTINEL" Bundle.listD) ∈ flatC (Jvm.Cond.and given_1 narrow_1) := by decide +kernel
theorem law_run {p : Program} {e : Env} {s : State} {m : MethodId} {below : List Frame} {meth : Method} {c : Code} {l : Launch} (hlt : l.stackTraces = false) {b L : Nat} {xs : Nat → Int32} (hL : L ≤ 6) (C0 : lw_At p s m meth c b L xs) {md d Nf : Nat} (hmd : md < 3) (hd : d ≤ 100) (hNf : Nf ≤ 244)
    (h : Rc (10 + md) (KL md L (fun j => (xs j).toInt) d) (mt 248) PL Nf L (fun j => (xs j).toInt) 0 (ent [.inr (.inl (some 999999))] 7) [] 0 z0 z1 z0 z2) :
    W p l e room_1 s m #[Value.ref b] below meth c s.heap [] 0 0 (lw_Z below #[Value.ref b] s) (entryFrame m ([Value.ref b] : List Value).toArray 7) := by
  obtain ⟨hx, hb, hr, hml, hown, hts, hX, hbl, hlocks, hgv⟩ := C0
  obtain ⟨G, hT⟩ := tk_of hts hgv
  have hgw : ∀ w ∈ gw, w.before #[Value.ref b] s = true := fun w hw => hts w (gw_sub hw)
  have hss : ssum (10 + md) Nf ≤ 7302232 := by
    refine Nat.le_trans (ssum_mono _ hNf) ?_
    obtain ⟨g0, g1, g2⟩ := ssum_le
    rcases (show md = 0 ∨ md = 1 ∨ md = 2 by omega) with rfl | rfl | rfl
    · exact g0
    · exact g1
    · exact g2
  have hclo := clo_gen (md := 10 + md) (G := G) (sz0 := s.heap.size) (sb := b) (scL := L) (scX := fun j => (xs j).toInt) (N0 := 0) (Nf := Nf) (nL := 7) (rf := 10 + d) (rl := 200 + 60 * d) (p := p) (l := l) (e := e) (R := room_1) (s := s) (m := m) (args := #[Value.ref b]) (below := below) (meth := meth) (c := c) (Q := lw_Z below #[Value.ref b] s) (K := KL md L (fun j => (xs j).toInt) d) (M := mt 248) (P := PL) (own := "RivalMillsLaw") (ini := false) (cc := code)
    rfl (KL_mono _ _ _ _) (KL_sound hmd hlt (by omega) d) hx hb hml hown (fun q => nomatch q) hgw hT ⟨by show 10 + d + 1 ≤ 2048; omega, by show 60 + (200 + 60 * d) ≤ 84000; omega⟩ (by omega) (by show Nf - 0 ≤ 600002; omega) (by show ssum (10 + md) Nf - 0 ≤ 7302232; omega) (by omega) (by omega)
    (fun pc hpc => okLw hpc) (fun a ha => okM_at ha) (fun pc hpc => List.all_eq_true.mp okLs pc (List.mem_range.mpr hpc))
    (fun pc x N1 fi fr ai al h => ?_) (fun pc Lo z N1 fi fr ai al hlt' hI hd hz hN hP => ?_) (fun pc Lo N1 fi fr ai al hlt' hI hd hN hP => nomatch hP) (fun pc Lo r N1 fi fr ai al hlt' hI hd hN hP => nomatch hP) (fun pc idx Lo S N1 fi fr ai al x hx3 ho hcl hd hd3 hd4 hd7 hw h9 hN hP => absurd ho (by decide))
  · have hX := h _ hclo (aa s.heap.size b) s.heap [] _ ⟨rfl, Nat.le_refl _, Nat.zero_le _, fun _ => rfl, ⟨fun i hi => absurd hi (by omega), fun i j hi => absurd hi (by omega), fun i hi => absurd hi (by omega),
        ⟨by simpa only [Int32.ofInt_toInt] using hX, hbl, Nat.le_refl _, vx_Zqof (hts _ zt_in.1) (hts _ zt_in.2.2) (flat_of_before _ hgv _ zn_in.1) (fun a h => Nat.not_le.mpr h), vx_Zqof (hts _ zt_in.2.1) (hts _ zt_in.2.2) (flat_of_before _ hgv _ zn_in.2) (fun a h => Nat.not_le.mpr h)⟩, fun q => absurd q (by omega), if_pos rfl⟩, va_S.rf⟩ (ent_rel (α := aa s.heap.size b) (as := [.inr (.inl (some 999999))]) (n := 7) (by decide))
    have hE : entryFrame m ([Value.ref b] : List Value).toArray 7 = F0 m 0 ((lg_sl (([.inr (.inl (some 999999))] : List av).map (cv (aa s.heap.size b))) ++ List.replicate (7 - (lg_sl (([.inr (.inl (some 999999))] : List av).map (cv (aa s.heap.size b)))).length) Slot.unset).toArray) [] := by
      have e1 : ([.inr (.inl (some 999999))] : List av).map (cv (aa s.heap.size b)) = [Value.ref b] := by simp [cv, aa]
      rw [e1]
      exact lg_entry_eq _ _ _
    rw [hE]
    exact hX
  · have hq : N1 = Nf ∧ PL (.inr x) fi fr ai al := h
    nomatch hq.2
  · have hz1 : z = 1 := by
      have := Sum.inl.inj hP
      exact Sum.inl.inj (Option.some.inj this)
    subst hz1
    subst hN
    intro α H locs ls hO hl
    have hS := hO.2.2.2.2.2
    refine va_forget (fun q hq => hS.2.2 q hq) ?_
    refine W.widen (k := 600002) (n := 7302232) (by show N1 - 0 ≤ _; omega) (by show ssum (10 + md) N1 - 0 ≤ _; omega) ?_
    exact lw_ret hx hb hr hlocks hd
