/-! EVERY METHOD MEETS ITS PICTURE -/
theorem all_app {f : Nat → Bool} {a b : List Nat} (h1 : a.all f = true) (h2 : b.all f = true) : (a ++ b).all f = true := by rw [List.all_append, h1, h2]; rfl
theorem okC_at {y : Nat} (hy : y < nM) : okC y = true := by
  have h : ([0, 1, 2, 3, 4, 5] ++ ([6, 7, 8, 9, 10, 11, 12, 13] ++ ([14, 15, 16, 17, 18, 19, 20] ++ ([21, 22, 23, 24, 25, 26, 27] ++ ([28, 29, 30, 31, 32] ++ ([33, 34, 35, 36, 37] ++ ([38, 39, 40, 41, 42, 43, 44, 45] ++ ([46] ++ ([47, 48, 49] ++ ([50, 51] ++ ([52, 53, 54] ++ ([55, 56, 57, 58, 59, 60] ++ ([61, 62, 63, 64, 65] ++ ([66, 67, 68, 69, 70, 71] ++ ([72, 73, 74, 75, 76] ++ ([77, 78, 79, 80, 81, 82, 83, 84, 85, 86, 87, 88] ++ ([89, 90, 91, 92, 93, 94] ++ ([95, 96, 97, 98, 99] ++ ([100, 101, 102, 103, 104, 105, 106, 107, 108, 109, 110, 111] ++ ([112, 113, 114, 115, 116, 117] ++ ([118, 119, 120, 121, 122, 123, 124] ++ ([125, 126, 127, 128, 129] ++ ([130, 131, 132, 133, 134] ++ ([135, 136, 137, 138, 139, 140, 141] ++ ([142, 143, 144, 145, 146] ++ ([147, 148, 149, 150, 151, 152] ++ ([153, 154, 155] ++ ([156, 157, 158, 159, 160] ++ ([161, 162, 163, 164] ++ ([165, 166] ++ ([167] ++ ([168, 169, 170, 171, 172, 173, 174] ++ ([175, 176, 177, 178, 179, 180, 181, 182] ++ ([183, 184, 185, 186, 187, 188] ++ ([189, 190, 191] ++ ([192, 193, 194, 195, 196] ++ ([197, 198, 199, 200, 201] ++ ([202, 203, 204] ++ ([205, 206, 207, 208, 209] ++ ([210, 211, 212, 213, 214, 215] ++ ([216, 217, 218, 219, 220, 221, 222, 223, 224, 225, 226] ++ ([227, 228, 229, 230, 231, 232, 233, 234, 235, 236, 237, 238] ++ [239, 240, 241, 242, 243, 244, 245, 246, 247]))))))))))))))))))))))))))))))))))))))))) : List Nat).all okC = true := (all_app okC_0 (all_app okC_1 (all_app okC_2 (all_app okC_3 (all_app okC_4 (all_app okC_5 (all_app okC_6 (all_app okC_7 (all_app okC_8 (all_app okC_9 (all_app okC_10 (all_app okC_11 (all_app okC_12 (all_app okC_13 (all_app okC_14 (all_app okC_15 (all_app okC_16 (all_app okC_17 (all_app okC_18 (all_app okC_19 (all_app okC_20 (all_app okC_21 (all_app okC_22 (all_app okC_23 (all_app okC_24 (all_app okC_25 (all_app okC_26 (all_app okC_27 (all_app okC_28 (all_app okC_29 (all_app okC_30 (all_app okC_31 (all_app okC_32 (all_app okC_33 (all_app okC_34 (all_app okC_35 (all_app okC_36 (all_app okC_37 (all_app okC_38 (all_app okC_39 (all_app okC_40 (all_app okC_41 okC_42))))))))))))))))))))))))))))))))))))))))))
  have e : List.range nM = ([0, 1, 2, 3, 4, 5] ++ ([6, 7, 8, 9, 10, 11, 12, 13] ++ ([14, 15, 16, 17, 18, 19, 20] ++ ([21, 22, 23, 24, 25, 26, 27] ++ ([28, 29, 30, 31, 32] ++ ([33, 34, 35, 36, 37] ++ ([38, 39, 40, 41, 42, 43, 44, 45] ++ ([46] ++ ([47, 48, 49] ++ ([50, 51] ++ ([52, 53, 54] ++ ([55, 56, 57, 58, 59, 60] ++ ([61, 62, 63, 64, 65] ++ ([66, 67, 68, 69, 70, 71] ++ ([72, 73, 74, 75, 76] ++ ([77, 78, 79, 80, 81, 82, 83, 84, 85, 86, 87, 88] ++ ([89, 90, 91, 92, 93, 94] ++ ([95, 96, 97, 98, 99] ++ ([100, 101, 102, 103, 104, 105, 106, 107, 108, 109, 110, 111] ++ ([112, 113, 114, 115, 116, 117] ++ ([118, 119, 120, 121, 122, 123, 124] ++ ([125, 126, 127, 128, 129] ++ ([130, 131, 132, 133, 134] ++ ([135, 136, 137, 138, 139, 140, 141] ++ ([142, 143, 144, 145, 146] ++ ([147, 148, 149, 150, 151, 152] ++ ([153, 154, 155] ++ ([156, 157, 158, 159, 160] ++ ([161, 162, 163, 164] ++ ([165, 166] ++ ([167] ++ ([168, 169, 170, 171, 172, 173, 174] ++ ([175, 176, 177, 178, 179, 180, 181, 182] ++ ([183, 184, 185, 186, 187, 188] ++ ([189, 190, 191] ++ ([192, 193, 194, 195, 196] ++ ([197, 198, 199, 200, 201] ++ ([202, 203, 204] ++ ([205, 206, 207, 208, 209] ++ ([210, 211, 212, 213, 214, 215] ++ ([216, 217, 218, 219, 220, 221, 222, 223, 224, 225, 226] ++ ([227, 228, 229, 230, 231, 232, 233, 234, 235, 236, 237, 238] ++ [239, 240, 241, 242, 243, 244, 245, 246, 247]))))))))))))))))))))))))))))))))))))))))) : List Nat) := by decide +kernel
  exact List.all_eq_true.mp h y (e ▸ List.mem_range.mpr hy)
theorem okM_at {y : Nat} (hy : y < nM) : okM y = true := by
  have h : ([0, 1, 2, 3, 4, 5, 6, 7, 8, 9] ++ ([10, 11, 12, 13, 14, 15, 16, 17, 18, 19] ++ ([20, 21, 22, 23, 24, 25, 26, 27, 28, 29] ++ ([30, 31, 32, 33, 34, 35, 36, 37, 38, 39] ++ ([40, 41, 42, 43, 44, 45, 46, 47, 48, 49] ++ ([50, 51, 52, 53, 54, 55, 56, 57, 58, 59] ++ ([60, 61, 62, 63, 64, 65, 66, 67, 68, 69] ++ ([70, 71, 72, 73, 74, 75, 76, 77, 78, 79] ++ ([80, 81, 82, 83, 84, 85, 86, 87, 88, 89] ++ ([90, 91, 92, 93, 94, 95, 96, 97, 98, 99] ++ ([100, 101, 102, 103, 104, 105, 106, 107, 108, 109] ++ ([110, 111, 112, 113, 114, 115, 116, 117, 118, 119] ++ ([120, 121, 122, 123, 124, 125, 126, 127, 128, 129] ++ ([130, 131, 132, 133, 134, 135, 136, 137, 138, 139] ++ ([140, 141, 142, 143, 144, 145, 146, 147, 148, 149] ++ ([150, 151, 152, 153, 154, 155, 156, 157, 158, 159] ++ ([160, 161, 162, 163, 164, 165, 166, 167, 168, 169] ++ ([170, 171, 172, 173, 174, 175, 176, 177, 178, 179] ++ ([180, 181, 182, 183, 184, 185, 186, 187, 188, 189] ++ ([190, 191, 192, 193, 194, 195, 196, 197, 198, 199] ++ ([200, 201, 202, 203, 204, 205, 206, 207, 208, 209] ++ ([210, 211, 212, 213, 214, 215, 216, 217, 218, 219] ++ ([220, 221, 222, 223, 224, 225, 226, 227, 228, 229] ++ ([230, 231, 232, 233, 234, 235, 236, 237, 238, 239] ++ [240, 241, 242, 243, 244, 245, 246, 247]))))))))))))))))))))))) : List Nat).all okM = true := (all_app okM_0 (all_app okM_1 (all_app okM_2 (all_app okM_3 (all_app okM_4 (all_app okM_5 (all_app okM_6 (all_app okM_7 (all_app okM_8 (all_app okM_9 (all_app okM_10 (all_app okM_11 (all_app okM_12 (all_app okM_13 (all_app okM_14 (all_app okM_15 (all_app okM_16 (all_app okM_17 (all_app okM_18 (all_app okM_19 (all_app okM_20 (all_app okM_21 (all_app okM_22 (all_app okM_23 okM_24))))))))))))))))))))))))
  have e : List.range nM = ([0, 1, 2, 3, 4, 5, 6, 7, 8, 9] ++ ([10, 11, 12, 13, 14, 15, 16, 17, 18, 19] ++ ([20, 21, 22, 23, 24, 25, 26, 27, 28, 29] ++ ([30, 31, 32, 33, 34, 35, 36, 37, 38, 39] ++ ([40, 41, 42, 43, 44, 45, 46, 47, 48, 49] ++ ([50, 51, 52, 53, 54, 55, 56, 57, 58, 59] ++ ([60, 61, 62, 63, 64, 65, 66, 67, 68, 69] ++ ([70, 71, 72, 73, 74, 75, 76, 77, 78, 79] ++ ([80, 81, 82, 83, 84, 85, 86, 87, 88, 89] ++ ([90, 91, 92, 93, 94, 95, 96, 97, 98, 99] ++ ([100, 101, 102, 103, 104, 105, 106, 107, 108, 109] ++ ([110, 111, 112, 113, 114, 115, 116, 117, 118, 119] ++ ([120, 121, 122, 123, 124, 125, 126, 127, 128, 129] ++ ([130, 131, 132, 133, 134, 135, 136, 137, 138, 139] ++ ([140, 141, 142, 143, 144, 145, 146, 147, 148, 149] ++ ([150, 151, 152, 153, 154, 155, 156, 157, 158, 159] ++ ([160, 161, 162, 163, 164, 165, 166, 167, 168, 169] ++ ([170, 171, 172, 173, 174, 175, 176, 177, 178, 179] ++ ([180, 181, 182, 183, 184, 185, 186, 187, 188, 189] ++ ([190, 191, 192, 193, 194, 195, 196, 197, 198, 199] ++ ([200, 201, 202, 203, 204, 205, 206, 207, 208, 209] ++ ([210, 211, 212, 213, 214, 215, 216, 217, 218, 219] ++ ([220, 221, 222, 223, 224, 225, 226, 227, 228, 229] ++ ([230, 231, 232, 233, 234, 235, 236, 237, 238, 239] ++ [240, 241, 242, 243, 244, 245, 246, 247]))))))))))))))))))))))) : List Nat) := by decide +kernel
  exact List.all_eq_true.mp h y (e ▸ List.mem_range.mpr hy)
def okR (y : Nat) : Bool := (List.range (mt y).2.1).all fun pc => match ((mt y).1 pc).1 with
  | .ireturn => decide ((mi y).2.2.2.1 = some .int) || decide ((mi y).2.2.2.1 = some .boolean)
  | .areturn => (match (mi y).2.2.2.1 with | some (.object _) => true | _ => false)
  | .return_ => decide ((mi y).2.2.2.1 = none)
  | _ => true
def okS (y : Nat) : Bool := (List.range (mt y).2.1).all fun pc => ns3 ((mt y).1 pc)
theorem okR_all : ((List.range nM).all fun y => okR y && okS y) = true := by decide +kernel
theorem okR_at {y : Nat} (hy : y < nM) : okR y = true ∧ okS y = true := Bool.and_eq_true_iff.mp (List.all_eq_true.mp okR_all y (List.mem_range.mpr hy))
theorem lg_sl_cons (v : Value) (vs : List Value) : lg_sl (v :: vs) = (if v.category = 2 then [.val v, .second] else [.val v]) ++ lg_sl vs := by simp [lg_sl]
theorem ent_len : ∀ (as : List av) (n : Nat), wsum as ≤ n → (ent as n).length = n
  | [], n, _ => by simp [ent]
  | .inr (.inr w) :: t, n, h => by
    have h' : 2 + wsum t ≤ n := h
    simp only [ent, List.length_cons]
    rw [ent_len t (n - 2) (by omega)]
    omega
  | .inl z :: t, n, h => by
    have h' : 1 + wsum t ≤ n := h
    simp only [ent, List.length_cons]
    rw [ent_len t (n - 1) (by omega)]
    omega
  | .inr (.inl r) :: t, n, h => by
    have h' : 1 + wsum t ≤ n := h
    simp only [ent, List.length_cons]
    rw [ent_len t (n - 1) (by omega)]
    omega
theorem sl_wsum (α : Nat → Nat) : ∀ (as : List av), (lg_sl (as.map (cv α))).length = wsum as
  | [] => rfl
  | .inr (.inr w) :: t => by rw [List.map_cons, lg_sl_cons, List.length_append, sl_wsum α t]; rfl
  | .inl z :: t => by rw [List.map_cons, lg_sl_cons, List.length_append, sl_wsum α t]; rfl
  | .inr (.inl none) :: t => by rw [List.map_cons, lg_sl_cons, List.length_append, sl_wsum α t]; rfl
  | .inr (.inl (some o)) :: t => by rw [List.map_cons, lg_sl_cons, List.length_append, sl_wsum α t]; rfl
theorem gl_rep : ∀ (n k : Nat), gl (List.replicate n none) k = none
  | 0, _ => rfl
  | _ + 1, 0 => rfl
  | n + 1, k + 1 => gl_rep n k
theorem ent_at (α : Nat → Nat) : ∀ (as : List av) (n k : Nat) (v : av), gl (ent as n) k = some v → (lg_sl (as.map (cv α)))[k]? = some (.val (cv α v))
  | [], n, k, v, h => by rw [ent, gl_rep] at h; cases h
  | .inr (.inr w) :: t, n, k, v, h => by
    rw [List.map_cons, lg_sl_cons]
    match k, h with
    | 0, h => cases Option.some.inj h; rfl
    | 1, h => cases h
    | k + 2, h => exact ent_at α t (n - 2) k v h
  | .inl z :: t, n, k, v, h => by
    rw [List.map_cons, lg_sl_cons]
    match k, h with
    | 0, h => cases Option.some.inj h; rfl
    | k + 1, h => exact ent_at α t (n - 1) k v h
  | .inr (.inl none) :: t, n, k, v, h => by
    rw [List.map_cons, lg_sl_cons]
    match k, h with
    | 0, h => cases Option.some.inj h; rfl
    | k + 1, h => exact ent_at α t (n - 1) k v h
  | .inr (.inl (some o)) :: t, n, k, v, h => by
    rw [List.map_cons, lg_sl_cons]
    match k, h with
    | 0, h => cases Option.some.inj h; rfl
    | k + 1, h => exact ent_at α t (n - 1) k v h
theorem ent_rel {α : Nat → Nat} {as : List av} {n : Nat} (h : wsum as ≤ n) : lrel α (ent as n) ((lg_sl (as.map (cv α)) ++ List.replicate (n - (lg_sl (as.map (cv α))).length) Slot.unset).toArray) n := by
  have hl := lv_entry (as.map (cv α)) (n := n) (by rw [sl_wsum]; exact h)
  refine ⟨hl.1, hl.2.1, ent_len as n h, fun k v hk => ?_⟩
  have h1 := ent_at α as n k v hk
  rw [List.getElem?_toArray, List.getElem?_append_left (List.getElem?_eq_some_iff.mp h1).1]
  exact h1
/-- what a method's words say of its code -/
theorem body_at {l : Launch} {p : Program} {e : Env} {s s₁ : State} {m : MethodId} {args : Array Value} {below : List Frame} {meth : Method} {c : Code} {y : Nat} {rm : Room} (B : BodyLoose p l (mi y).1 (headSpec (wsD y) rm) (mi y).2.1 (mi y).2.2.1 (mi y).2.2.2.1 e s m args below meth c s₁) :
    ((mi y).2.2.2.2.2.2 = [] → ∀ z ∈ c.exceptionTable.toList, False) ∧ ((mi y).2.2.2.2.2.2 ≠ [] → c.exceptionTable.toList = tableOf (mi y).2.2.2.2.2.2) := by
  have hw := atoms_spec (ws := wsD y) B.pre _ (List.mem_cons_self : cwD y ∈ wsD y)
  refine ⟨fun hh => ?_, fun hh => ?_⟩
  · have hcw : cwD y = .code (mi y).1 (mi y).2.1 (mi y).2.2.1 (mi y).2.2.2.1 := by unfold cwD; rw [hh]
    rw [hcw] at hw
    obtain ⟨meth9, c9, h1, h2, -, -, -, -, h7, -⟩ := Cond.code_spec B.named hw
    cases Option.some.inj (h1.symm.trans B.method)
    cases Option.some.inj (h2.symm.trans (Stand.of_body B).code)
    intro x hx
    rw [Array.isEmpty_iff.mp h7] at hx
    cases hx
  · have hcw : cwD y = .codeWith (mi y).1 (mi y).2.1 (mi y).2.2.1 (mi y).2.2.2.1 (mi y).2.2.2.2.2.2 := by
      unfold cwD
      revert hh
      generalize (mi y).2.2.2.2.2.2 = hh
      cases hh with
      | nil => exact fun h => absurd rfl h
      | cons _ _ => exact fun _ => rfl
    rw [hcw] at hw
    exact vx_table (x := (mi y).1) B hw
set_option maxHeartbeats 2000000 in
theorem vy_of {md scL : Nat} {scX : Nat → Int} {l : Launch} {K : ct} {rf rl rf' rl' : Nat} (hlt : l.stackTraces = false) (hsc : scL < 2147483648) (hKm : cMono K) (hKS : KS md scL scX K l rf rl) (hrf : 9 ≤ rf) (hrl : 140 ≤ rl) (hrf' : rf' = rf + 1) (hrl' : rl' = 60 + rl)
    {G : gG} {sz0 sb y : Nat} {as : List av} {N : Nat} {fi : tF} {fr : tR} {ai : tF} {al : tL} {N' : Nat} {P : ot} (hy : y < nM) (hNN : N ≤ N') (hN' : N' < 999999) (hws : wsum as ≤ (mt y).2.2.1) (hRc : Rc md K (mt y) P N' scL scX 0 (ent as (mt y).2.2.1) [] N fi fr ai al) :
    vx_Met l (mi y).1 (wsD y) (rmD rf' rl' md N N') (PcD md G sz0 sb scL scX as N fi fr ai al) (QcD md G sz0 sb scL scX N' P) (XcD md G sz0 sb scL scX N' P) (N' - N) (ssum md N' - ssum md N) (fun q => sz0 ≤ q) := by
  subst hrf'; subst hrl'
  obtain ⟨-, -, -, -, hpl, -, -, hml9, -, hbz, hHd⟩ := okM_spec (okM_at hy)
  obtain ⟨hoR, hoS⟩ := okR_at hy
  have hH2 := List.all_eq_true.mp okH2_all y (List.mem_range.mpr hy)
  rw [Bool.and_eq_true, Bool.or_eq_true, decide_eq_true_eq] at hH2
  obtain ⟨hH2, hH3⟩ := hH2
  refine MetFree.of_bodySF (code := (mi y).2.1) (maxLocals := (mi y).2.2.1) (ret := (mi y).2.2.2.1) hpl ?_ ?_
  · intro args s m h hn
    have hw := atoms_spec (ws := wsD y) h _ (List.mem_cons_self : cwD y ∈ wsD y)
    by_cases hh : (mi y).2.2.2.2.2.2 = []
    · have hcw : cwD y = .code (mi y).1 (mi y).2.1 (mi y).2.2.1 (mi y).2.2.2.1 := by unfold cwD; rw [hh]
      rw [hcw] at hw
      obtain ⟨meth, c, h1, h2, h3, h4, h5, h6, -, -⟩ := Cond.code_spec hn hw
      exact ⟨meth, c, h1, h2, h3, h4, h5, h6⟩
    · have hcw : cwD y = .codeWith (mi y).1 (mi y).2.1 (mi y).2.2.1 (mi y).2.2.2.1 (mi y).2.2.2.2.2.2 := by
        unfold cwD
        revert hh
        generalize (mi y).2.2.2.2.2.2 = hh
        cases hh with
        | nil => exact fun h => absurd rfl h
        | cons _ _ => exact fun _ => rfl
      rw [hcw] at hw
      obtain ⟨m9, meth, c, h0, h1, h2, h3, h4, -, h5, h6, -⟩ := Cond.codeWith_spec hw
      cases Option.some.inj (h0.symm.trans hn)
      exact ⟨meth, c, h1, h2, h3, h4, h5, h6⟩
  · intro p e s m args below meth c s₁ B hml hP _
    have hh0 : s₁.heap = s.heap := by rw [B.state]; rfl
    obtain ⟨hargs, hT, hsz, hWd⟩ := hP
    have hts : ∀ w ∈ gw, w.before args s = true := fun w hw => atoms_spec (ws := wsD y) B.pre w (List.mem_cons_of_mem _ hw)
    have hown : s.vm.findClass (mi y).1.cls = some m.cls := findClass_of_methodNamed B.named
    obtain ⟨hb1, hb2⟩ := body_at B
    have hlocks := B.notSynchronized
    have hx := B.exec
    have hb := B.bytes
    have hret := B.returns
    have hclo := clo_gen (md := md) (G := G) (sz0 := sz0) (sb := sb) (scL := scL) (scX := scX) (N0 := N) (Nf := N') (nL := (mi y).2.2.1) (rf := rf) (rl := rl) (p := p) (l := l) (e := e) (R := (headSpec (wsD y) (rmD (rf + 1) (60 + rl) md N N')).room) (s := s) (m := m) (args := args) (below := below) (meth := meth) (c := c) (Q := QD md G sz0 sb scL scX N N' P s args below) (K := K) (M := mt y) (P := P) (own := (mi y).1.cls) (ini := decide ((mi y).1.name = "<init>")) (cc := (mi y).2.1)
      rfl hKm hKS hx hb hml hown (fun q => (name_of_methodNamed B.named B.method).1.trans (of_decide_eq_true q)) hts hT ⟨Nat.le_refl _, Nat.le_refl _⟩ (by omega) (Nat.le_refl _) (Nat.le_refl _) hN' hsc
      (fun pc hpc => List.all_eq_true.mp (okC_at hy) pc (List.mem_range.mpr hpc)) (fun a ha => okM_at ha) (fun pc hpc => List.all_eq_true.mp hoS pc (List.mem_range.mpr hpc))
      (fun pc x N1 fi fr ai al h => ?_) (fun pc L z N1 fi fr ai al hlt' hI hd hz hN hP => ?_) (fun pc L N1 fi fr ai al hlt' hI hd hN hP => ?_) (fun pc L r N1 fi fr ai al hlt' hI hd hN hP => ?_) (fun pc idx L S N1 fi fr ai al x hx3 ho hcl hd hd3 hd4 hd7 hw h9 hN hP => ?_)
    · have hX := hRc _ hclo (aa sz0 sb) s.heap [] _ ⟨rfl, Nat.le_refl _, hNN, hsz, hWd, va_S.rf⟩ (by rw [hml9]; exact ent_rel (by rw [← hml9]; exact hws))
      dsimp only at hX
      rw [Nat.sub_self, Nat.sub_self] at hX
      have hE : entryFrame m args (mi y).2.2.1 = F0 m 0 ((lg_sl (as.map (cv (aa sz0 sb))) ++ List.replicate ((mi y).2.2.1 - (lg_sl (as.map (cv (aa sz0 sb)))).length) Slot.unset).toArray) [] := by rw [hargs]; exact lg_entry_eq _ _ _
      rw [hE]
      obtain ⟨t, a1, o, b1, b2, b3⟩ := hX s₁ hh0 (Stand.of_body B)
      exact ⟨t, o, a1, b1, b2, b3⟩
    · by_cases hh : (mi y).2.2.2.2.2.2 = []
      · rw [hh] at hHd
        have hs0 : (mt y).2.2.2.2 = [] := by
          revert hHd
          generalize (mt y).2.2.2.2 = hs
          cases hs with
          | nil => exact fun _ => rfl
          | cons a t => intro h; simp [okHd] at h
        rw [hs0] at h
        intro hx3 H locs ls rest q ce hO hls hwf hce hcv hcl
        obtain ⟨rfl, hP⟩ : N1 = N' ∧ P (.inr x) fi fr ai al := h
        refine vx_outP hown hlocks (fun z hz => (hb1 hh z hz).elim) hce hcv hcl (fun t ht hal => ?_) hO.2.2.2.2.2.2.2 (Nat.le_refl _) (Nat.le_refl _)
        exact ⟨x, fi, fr, ai, al, rfl, hx3, hP, by rw [ht]; exact hO.2.2.2.1, by rw [ht]; exact hO.2.2.2.2.1.moved hal, hO.2.2.2.2.2.F ht⟩
      · have hcls : (mi y).1.cls = "RivalMillsLaw" := by
          rcases hH3 with q | q
          · exact absurd (List.isEmpty_iff.mp q) hh
          · exact q
        rw [hml9] at h
        rw [hcls] at hown
        exact xe_ex hx hb rfl hlocks hown hts hT [] (mi y).2.2.2.2.2.2 (mt y).2.2.2.2 (hb2 hh) (fun _ z hz => nomatch hz) hHd hH2 h
    · have hoR1 := List.all_eq_true.mp hoR pc (List.mem_range.mpr hlt')
      rw [hI] at hoR1
      simp only [Bool.or_eq_true, decide_eq_true_eq] at hoR1
      by_cases hr : (mi y).2.2.2.1 = some .boolean
      · exact xr_zret hx hb hlocks (hret.trans hr) (hz (hbz.mpr hr)) hd hN hP
      · rcases hoR1 with q | q
        · exact xr_iret hx hb hlocks (hret.trans q) hd hN hP
        · exact absurd q hr
    · have hoR1 := List.all_eq_true.mp hoR pc (List.mem_range.mpr hlt')
      rw [hI] at hoR1
      exact xr_vret hx hb hlocks (hret.trans (of_decide_eq_true hoR1)) hd hN hP
    · have hoR1 := List.all_eq_true.mp hoR pc (List.mem_range.mpr hlt')
      rw [hI] at hoR1
      dsimp only at hoR1
      split at hoR1
      · rename_i n hr
        exact xr_aret hx hb hlocks (hret.trans hr) hd hN hP
      · cases hoR1
    · have hh : (mi y).2.2.2.2.2.2 = [] := by
        rcases hH3 with q | q
        · exact List.isEmpty_iff.mp q
        · rw [ho] at q; exact absurd q (by decide)
      rw [ho] at hown
      exact xr_throw hx hb hml hlocks hlt hx3 hown hts hT hWd.2.2.2.1 (hb1 hh) ⟨by show 10 ≤ rf + 1; omega, by show 200 ≤ 60 + rl; omega⟩ (Nat.le_refl _) (Nat.le_refl _) hN' hw hcl rfl hd hd3 hd4 hd7 h9 hN hP
/-- a call in pictures is the machine's -/
theorem Call_sound {md scL : Nat} {scX : Nat → Int} {l : Launch} (hlt : l.stackTraces = false) (hsc : scL < 2147483648) : ∀ d, KS md scL scX (Call md scL scX d) l (10 + d) (200 + 60 * d)
  | 0 => fun _ _ _ _ _ _ _ _ _ _ _ _ _ _ _ _ h => h.elim
  | d + 1 => fun _ _ _ _ _ _ _ _ _ _ _ _ hy _ hNN hN' h => vy_of hlt hsc (Call_mono md scL scX d) (Call_sound hlt hsc d) (by omega) (by omega) (by omega) (by omega) hy hNN hN' (Nat.le_of_ble_eq_true h.1.2) h.2
