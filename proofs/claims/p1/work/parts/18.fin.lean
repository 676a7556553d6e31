/-! the ends of a method: it answers, it throws; what is thrown is caught or goes on -/
def xnames : List String := ["java/lang/RuntimeException", "java/lang/Exception"]
def xB (x : Nat) : List Cond := [.declares (Bundle.init0 "java/lang/RuntimeException"), .declares (Bundle.init0 "java/lang/Exception"), .declares (Bundle.init0 Bundle.tN), .castable (xN x) (xN x)]
theorem xat0 : ∀ w ∈ (vx_at0 "RivalMills" (icN 0) (xN 0) xnames).filter goodWord, w ∈ lw_tbl := by decide +kernel
theorem xat1 : ∀ w ∈ (vx_at0 "RivalMills" (icN 1) (xN 1) xnames).filter goodWord, w ∈ lw_tbl := by decide +kernel
theorem xat2 : ∀ w ∈ (vx_at0 "RivalMills" (icN 2) (xN 2) xnames).filter goodWord, w ∈ lw_tbl := by decide +kernel
theorem xbt0 : ∀ w ∈ (vx_at0 "RivalMills" (icN 0) (xN 0) xnames).filter (fun w => !goodWord w), w ∈ xB 0 := by decide +kernel
theorem xbt1 : ∀ w ∈ (vx_at0 "RivalMills" (icN 1) (xN 1) xnames).filter (fun w => !goodWord w), w ∈ xB 1 := by decide +kernel
theorem xbt2 : ∀ w ∈ (vx_at0 "RivalMills" (icN 2) (xN 2) xnames).filter (fun w => !goodWord w), w ∈ xB 2 := by decide +kernel
theorem xot : ∀ x, x < 3 → ∀ w ∈ Cond.classLink "RivalMills" 0 (xN x) :: Cond.initialized (xN x) :: vx_at0 "RivalMills" (icN x) (xN x) xnames, vx_ot w = true := by decide +kernel
theorem xfit : ∀ x, x < 3 → Bundle.fit (xN x) = true := by decide +kernel
theorem xfitn : ∀ n ∈ xnames, Bundle.fit n = true := by decide +kernel
theorem xini : ∀ x, x < 3 → Cond.initialized (xN x) ∈ lw_tbl := by decide +kernel
theorem xhat {args : Array Value} {s : State} {G : gG} (hts : ∀ w ∈ gw, w.before args s = true) (hT : TKx G s) : ∀ x, x < 3 → ∀ w ∈ vx_at0 "RivalMills" (icN x) (xN x) xnames, w.before args s = true := by
  have hB : ∀ x, x < 3 → ∀ w ∈ xB x, w.before args s = true := by
    intro x hx w hw
    simp only [xB, List.mem_cons, List.not_mem_nil, or_false] at hw
    rcases hw with rfl | rfl | rfl | rfl
    · exact va_Nw.use rfl (hT.2.2.2.2.2 _ (by simp))
    · exact va_Nw.use rfl (hT.2.2.2.2.2 _ (by simp))
    · exact va_Nw.use rfl (hT.2.2.2.2.2 _ (by simp))
    · exact va_Nw.use rfl (hT.2.2.2.1 x hx)
  intro x hx
  match x, hx with
  | 0, hx => exact vx_hat (fun w hw => hts w (List.mem_filter.mpr ⟨xat0 w hw, (List.mem_filter.mp hw).2⟩)) xbt0 (hB 0 hx)
  | 1, hx => exact vx_hat (fun w hw => hts w (List.mem_filter.mpr ⟨xat1 w hw, (List.mem_filter.mp hw).2⟩)) xbt1 (hB 1 hx)
  | 2, hx => exact vx_hat (fun w hw => hts w (List.mem_filter.mpr ⟨xat2 w hw, (List.mem_filter.mp hw).2⟩)) xbt2 (hB 2 hx)
theorem shp9_dec : ∀ i, i < 233 → (shp 0 i).1 ≠ 9 := by decide +kernel
theorem shp39_dec : ∀ i, i < 244 → (shp3 i).1 ≠ 9 := by decide +kernel
/-- the thing that is thrown: six slots, nothing behind it -/
theorem shp9 {md i : Nat} (h : (shp md i).1 = 9) : (shp md i).2 = 6 ∧ (shp md (i + 1)).1 = 8 := by
  by_cases hi : i < 233
  · rw [shp_base md hi] at h
    exact absurd h (shp9_dec i hi)
  · rw [shp_high md (by omega)] at h ⊢
    rw [shp_high md (by omega)]
    have h3 : ∀ j, (shp3 j).1 ≠ 9 := fun j q => by
      by_cases hj : j < 244
      · exact shp39_dec j hj q
      · unfold shp3 at q
        rw [Nat.ble_eq_true_of_le (show 244 ≤ j by omega)] at q
        exact absurd (show (8 : Nat) = 9 from q) (by decide)
    unfold shp2 at h ⊢
    split at h
    · exact absurd h (h3 i)
    · exact absurd h (h3 i)
    · unfold cond at h; split at h <;> exact absurd h (by decide)
    · unfold cond at h; split at h <;> exact absurd h (by decide)
    · rename_i m1 m2 m3 m4
      cases hb : Nat.beq i 233 with
      | false => rw [hb] at h; exact absurd (show (8 : Nat) = 9 from h) (by decide)
      | true =>
        have e1 := Nat.eq_of_beq_eq_true hb
        subst e1
        exact ⟨rfl, rfl⟩
section Fin
variable {md : Nat} {G : gG} {sz0 sb scL : Nat} {scX : Nat → Int} {N0 Nf : Nat} {nL : Nat} {p : Program} {l : Launch} {e : Env} {R : Room} {s : State} {m : MethodId} {args : Array Value} {below : List Frame} {meth : Method} {c : Code}
variable {cc : ByteArray} {pc np : Nat} {L : List (Option av)} {S S' : List av} {N N' : Nat} {fi : tF} {fr : tR} {ai : tF} {al : tL} {P : ot}
abbrev QD (md : Nat) (G : gG) (sz0 sb scL : Nat) (scX : Nat → Int) (N0 Nf : Nat) (P : ot) (s : State) (args : Array Value) (below : List Frame) : State → Prop := vx_MQ below (QcD md G sz0 sb scL scX Nf P) (XcD md G sz0 sb scL scX Nf P) args s (Nf - N0) (ssum md Nf - ssum md N0) (fun q => sz0 ≤ q)
theorem xr_q {α : Nat → Nat} {H : Heap} {locs : List Loc} {v : Option av} (hO : OO md G sz0 sb scL scX s N0 Nf α Nf fi fr ai al H locs) (hP : P (.inl v) fi fr ai al) : ∀ t : State, t.heap = H → s.WarmedH t.vm → QcD md G sz0 sb scL scX Nf P args s (.returned (v.map (cv α))) t := by
  intro t ht hW
  obtain ⟨rfl, -, -, hz, hWd, hS⟩ := hO
  exact ⟨v, fi, fr, ai, al, rfl, hP, by rw [ht]; exact hz, by rw [ht]; exact hWd.moved hW.alike, hS.F ht⟩
theorem xr_iret (hx : p.tables.exec = Jvm.exec) (hb : c.code = cc) (hlocks : meth.locks = false) (hret : meth.sig.returnType = some .int) {z : Int} (hd : decode cc pc = .ok (.ireturn, 1)) (hN : N = Nf) (hP : P (.inl (some (.inl z))) fi fr ai al) : XW (OO md G sz0 sb scL scX s N0 Nf) (fun N => N - N0) (fun N => ssum md N - ssum md N0) nL p l e R s m args below meth c (QD md G sz0 sb scL scX N0 Nf P s args below) pc L [.inl z] N fi fr ai al := by
  subst hN
  intro α H locs ls hO hl
  exact vx_ret (W.iret hx hb hret (xr_q (v := some (.inl z)) hO hP) hO.2.2.2.2.2.2.2 hd hlocks)
theorem xr_zret (hx : p.tables.exec = Jvm.exec) (hb : c.code = cc) (hlocks : meth.locks = false) (hret : meth.sig.returnType = some .boolean) {z : Int} (hz : z = 0 ∨ z = 1) (hd : decode cc pc = .ok (.ireturn, 1)) (hN : N = Nf) (hP : P (.inl (some (.inl z))) fi fr ai al) : XW (OO md G sz0 sb scL scX s N0 Nf) (fun N => N - N0) (fun N => ssum md N - ssum md N0) nL p l e R s m args below meth c (QD md G sz0 sb scL scX N0 Nf P s args below) pc L [.inl z] N fi fr ai al := by
  subst hN
  intro α H locs ls hO hl
  exact vx_ret (W.zret hx hb hret (by rcases hz with rfl | rfl <;> rfl) (xr_q (v := some (.inl z)) hO hP) hO.2.2.2.2.2.2.2 hd hlocks)
theorem xr_vret (hx : p.tables.exec = Jvm.exec) (hb : c.code = cc) (hlocks : meth.locks = false) (hret : meth.sig.returnType = none) (hd : decode cc pc = .ok (.return_, 1)) (hN : N = Nf) (hP : P (.inl none) fi fr ai al) : XW (OO md G sz0 sb scL scX s N0 Nf) (fun N => N - N0) (fun N => ssum md N - ssum md N0) nL p l e R s m args below meth c (QD md G sz0 sb scL scX N0 Nf P s args below) pc L [] N fi fr ai al := by
  subst hN
  intro α H locs ls hO hl
  exact vx_ret (W.vret hx hb hret (xr_q (v := none) hO hP) hO.2.2.2.2.2.2.2 hd hlocks)
theorem xr_aret (hx : p.tables.exec = Jvm.exec) (hb : c.code = cc) (hlocks : meth.locks = false) {n : String} (hret : meth.sig.returnType = some (.object n)) {r : Option Nat} (hd : decode cc pc = .ok (.areturn, 1)) (hN : N = Nf) (hP : P (.inl (some (.inr (.inl r)))) fi fr ai al) : XW (OO md G sz0 sb scL scX s N0 Nf) (fun N => N - N0) (fun N => ssum md N - ssum md N0) nL p l e R s m args below meth c (QD md G sz0 sb scL scX N0 Nf P s args below) pc L [.inr (.inl r)] N fi fr ai al := by
  subst hN
  intro α H locs ls hO hl
  exact vx_ret (W.aret hx hb hret (Or.inl ⟨n, rfl⟩) (by cases r with | none => exact Or.inl rfl | some o => exact Or.inr ⟨_, rfl⟩) (xr_q (v := some (.inr (.inl r))) hO hP) hO.2.2.2.2.2.2.2 hd hlocks)
theorem xr_throw (hx : p.tables.exec = Jvm.exec) (hb : c.code = cc) (hml : c.maxLocals = nL) (hlocks : meth.locks = false) (hlt : l.stackTraces = false) {x idx ic : Nat} (hx3 : x < 3) (hown : s.vm.findClass "RivalMills" = some m.cls) (hts : ∀ w ∈ gw, w.before args s = true) (hT : TKx G s) (hSX : SX sz0 sb scL scX s s.heap) (htab : ∀ z ∈ c.exceptionTable.toList, False)
    (hR : 10 ≤ R.frames ∧ 200 ≤ R.locals) (hRc : Nf - N0 ≤ R.cells) (hRs : ssum md Nf - ssum md N0 ≤ R.slots) (hNf : Nf < 999999) (hw : wsum S ≤ 60) (hcl : Cond.classLink "RivalMills" idx (xN x) ∈ gw) (hic : ic = icN x) (hd : decode cc pc = .ok (.new idx, 3)) (hd3 : decode cc (pc + 3) = .ok (.dup, 1)) (hd4 : decode cc (pc + 4) = .ok (.invokespecial ic, 3)) (hd7 : decode cc (pc + 7) = .ok (.athrow, 1))
    (hK : (shp md N).1 = 9) (hN : N + 1 = Nf) (hP : P (.inr x) fi fr ai al) : XW (OO md G sz0 sb scL scX s N0 Nf) (fun N => N - N0) (fun N => ssum md N - ssum md N0) nL p l e R s m args below meth c (QD md G sz0 sb scL scX N0 Nf P s args below) pc L S N fi fr ai al := by
  subst hN; subst hic
  intro α H locs ls hO hl
  obtain ⟨hα, hN0, -, hsz, hWd, hS⟩ := hO
  have hz := hsz (by rw [hK]; decide)
  obtain ⟨g6, g8⟩ := shp9 hK
  have hs1 : ssum md (N + 1) = ssum md N + 6 := by show _ + _ = _; rw [g6]
  have hs3 := ssum_mono md hN0
  refine vx_throw0 (A := fun q => sz0 ≤ q) (names := xnames) hx hb hlt hown (xfit x hx3) xfitn (hts _ hcl) (hts _ (List.mem_filter.mpr ⟨xini x hx3, rfl⟩)) (xhat hts hT x hx3) (fun w hw => ?_) hSX.2.2.2.1 hSX.2.2.2.2 hS (by rw [hl.1, hml]) hd hd3 hd4 hd7 (fun z hz => (htab z hz).elim) (by show 2 + 3 < _; omega) (by rw [wsum_cat]; show _ + (13 * (2 + 1) + 42) ≤ _; omega) (by show N - N0 + 1 ≤ _; omega) (by show ssum md N - ssum md N0 + 6 ≤ _; omega) hlocks (fun t hal h1 h2 => ?_) hS.2.2 (by show N - N0 + 1 ≤ _; omega) (by show ssum md N - ssum md N0 + 6 ≤ _; omega)
  · rcases List.mem_cons.mp hw with rfl | hw
    · rfl
    · exact xot x hx3 w (List.mem_cons_of_mem _ hw)
  · refine ⟨x, fi, fr, ai, al, rfl, hx3, hP, fun q => absurd g8 q, ?_, (hS.grow h1 h2).F rfl⟩
    rw [← hα]
    refine Wd.moved hal (hWd.grow hα (by omega) hz h1 h2 (fun i g1 g2 => ?_) (fun i _ k => ⟨rfl, rfl, rfl, rfl⟩))
    have : i = N := by omega
    subst this
    exact ⟨fun q => by omega, fun q => by omega, fun q => by omega, fun q => by omega, fun q hq => by omega⟩
/-- which entries of the law's class name which exceptions -/
def ctN (x : Nat) : Nat := match x with
  | 0 => 19
  | 1 => 30
  | _ => 13
def okH2 (b : ByteArray) (nL : Nat) : List (Nat × Nat × Nat × Nat) → List (Nat × Nat × Nat × Nat) → Bool
  | [], [] => true
  | (_, _, h, ct) :: r, (_, _, _, x) :: r' => Nat.beq ct (ctN x) && (match decode b h with
    | .ok (.astore k, _) => decide (k < nL)
    | .ok (.astore_n k, _) => decide (k.val < nL)
    | _ => false) && okH2 b nL r r'
  | _, _ => false
theorem okH2_all : ((List.range nM).all fun y => okH2 (mi y).2.1 (mi y).2.2.1 (mi y).2.2.2.2.2.2 (mt y).2.2.2.2 && ((mi y).2.2.2.2.2.2.isEmpty || decide ((mi y).1.cls = "RivalMillsLaw"))) = true := by decide +kernel
theorem ct_words : ∀ x, x < 3 → Cond.classLink "RivalMillsLaw" (ctN x) (xN x) ∈ lw_tbl := by decide +kernel
theorem xe_ex {Q : State → Prop} (hx : p.tables.exec = Jvm.exec) (hb : c.code = cc) (hQ : Q = QD md G sz0 sb scL scX N0 Nf P s args below) (hlocks : meth.locks = false) (hown : s.vm.findClass "RivalMillsLaw" = some m.cls) (hts : ∀ w ∈ gw, w.before args s = true) (hT : TKx G s) {x : Nat} :
    ∀ (pre hh hs : List (Nat × Nat × Nat × Nat)), c.exceptionTable.toList = tableOf (pre ++ hh) → (x < 3 → ∀ z ∈ tableOf pre, covers z pc = false ∨ (z.catchType ≠ 0 ∧ ∃ nm : String, (Cond.classLink "RivalMillsLaw" z.catchType nm).before args s = true ∧ va_Nc (xN x) nm s)) → okHd cc hh hs = true → okH2 cc nL hh hs = true →
    exH hs nL P Nf (XW (OO md G sz0 sb scL scX s N0 Nf) (fun N => N - N0) (fun N => ssum md N - ssum md N0) nL p l e R s m args below meth c Q) pc x N fi fr ai al → XV md G sz0 sb scL scX N0 Nf nL p l e R s m args below meth c Q pc x N fi fr ai al
  | pre, [], [], htb, hps, _, _, h => by
    intro hx3 H locs ls rest q ce hO hls hwf hce hcv hcl
    obtain ⟨rfl, hP⟩ : N = Nf ∧ P (.inr x) fi fr ai al := h
    subst hQ
    rw [List.append_nil] at htb
    refine vx_outP hown hlocks (by rw [htb]; exact hps hx3) hce hcv hcl (fun t ht hal => ?_) hO.2.2.2.2.2.2.2 (Nat.le_refl _) (Nat.le_refl _)
    exact ⟨x, fi, fr, ai, al, rfl, hx3, hP, by rw [ht]; exact hO.2.2.2.1, by rw [ht]; exact hO.2.2.2.2.1.moved hal, hO.2.2.2.2.2.F ht⟩
  | _, [], _ :: _, _, _, h1, _, _ => by simp [okHd] at h1
  | _, _ :: _, [], _, _, h1, _, _ => by simp [okHd] at h1
  | pre, (f, t, h0, ct) :: hh, (f', t', h', x') :: hs, htb, hps, h1, h2, h => by
    simp only [okHd, Bool.and_eq_true, beq_iff_eq, decide_eq_true_eq] at h1
    obtain ⟨⟨⟨⟨rfl, rfl⟩, hx'3⟩, hdec⟩, h1⟩ := h1
    simp only [okH2, Bool.and_eq_true] at h2
    obtain ⟨⟨hct, hkl⟩, h2⟩ := h2
    have hct := Nat.eq_of_beq_eq_true hct
    subst hct
    have hw' := hts _ (List.mem_filter.mpr ⟨ct_words x' hx'3, rfl⟩)
    have hct0 : ctN x' ≠ 0 := by unfold ctN; split <;> decide
    by_cases hcov : covers ⟨f, t, h0, ctN x'⟩ pc = true ∧ x' = x
    · obtain ⟨hcov, rfl⟩ := hcov
      intro hx3 H locs ls rest q ce hO hls hwf hce hcv hcl
      have hfn : fnd ((f, t, h', x') :: hs) pc x' = some h' := by
        simp only [covers, Bool.and_eq_true, decide_eq_true_eq] at hcov
        unfold fnd
        rw [Nat.ble_eq_true_of_le hcov.1, Nat.ble_eq_true_of_le (show pc + 1 ≤ t from hcov.2), Nat.beq_refl]; rfl
      unfold exH at h
      rw [hfn] at h
      refine vx_catch hown (tableOf pre) ⟨f, t, h0, ctN x'⟩ (tableOf hh) (by rw [htb]; simp [tableOf]) (hps hx3) hcov hct0 hw' (va_Nw.use rfl (hT.2.2.2.1 x' hx3)) hce hcv hcl ?_
      have hhas : lv_has ls nL [] := ⟨hls, hwf, fun q hq => nomatch hq⟩
      have fin : ∀ ls' : Array Slot, ∀ lv, lv_has ls' nL lv → W p l e R s m args below meth c H locs (N - N0) (ssum md N - ssum md N0) Q (F0 m h' ls' []) := fun ls' lv hl' => h (aa sz0 sb) H locs ls' hO ⟨hl'.1, hl'.2.1, List.length_replicate, fun k v hk => by
        have gr : ∀ n k, gl (List.replicate n none) k = none := fun n => by
          induction n with
          | zero => exact fun _ => rfl
          | succ n ih => exact fun k => by cases k with | zero => rfl | succ k => exact ih k
        rw [gr] at hk; cases hk⟩
      show W p l e R s m args below meth c H locs (N - N0) (ssum md N - ssum md N0) Q (F0 m h0 ls [.ref q])
      revert hdec
      split
      · rename_i k n hdd
        simp only [Bool.and_eq_true, beq_iff_eq]
        rintro ⟨rfl, rfl⟩
        rw [hdd] at hkl
        exact lv_astore hx hb hdd hhas (of_decide_eq_true hkl) rfl (fun ls' hl' => fin ls' _ hl')
      · rename_i k n hdd
        simp only [Bool.and_eq_true, beq_iff_eq]
        rintro ⟨rfl, rfl⟩
        rw [hdd] at hkl
        exact lv_astore_n hx hb hdd rfl hhas (of_decide_eq_true hkl) rfl (fun ls' hl' => fin ls' _ hl')
      · intro h; cases h
    · have hfn : fnd ((f, t, h', x') :: hs) pc x = fnd hs pc x := by
        show (bif Nat.ble f pc && Nat.ble (pc + 1) t && Nat.beq x' x then some h' else fnd hs pc x) = _
        have : (Nat.ble f pc && Nat.ble (pc + 1) t && Nat.beq x' x) = false := (Bool.not_eq_true _).mp (fun z => hcov (by
          simp only [Bool.and_eq_true] at z
          refine ⟨?_, Nat.eq_of_beq_eq_true z.2⟩
          simp only [covers, Bool.and_eq_true, decide_eq_true_eq]
          exact ⟨Nat.le_of_ble_eq_true z.1.1, Nat.le_of_ble_eq_true z.1.2⟩))
        rw [this]; rfl
      refine xe_ex hx hb hQ hlocks hown hts hT (pre ++ [(f, t, h0, ctN x')]) hh hs (by rw [htb]; simp) (fun hx3 z hz => ?_) h1 h2 (by unfold exH at h ⊢; rw [hfn] at h; exact h)
      simp only [tableOf, List.map_append, List.map_cons, List.map_nil, List.mem_append, List.mem_singleton] at hz
      rcases hz with hz | rfl
      · exact hps hx3 z hz
      · by_cases hc : covers ⟨f, t, h0, ctN x'⟩ pc = true
        · exact Or.inr ⟨hct0, xN x', hw', hT.2.2.2.2.1 x x' hx3 hx'3 (fun q => hcov ⟨hc, q.symm⟩)⟩
        · exact Or.inl ((Bool.not_eq_true _).mp hc)
end Fin
