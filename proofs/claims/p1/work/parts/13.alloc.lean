/-! new cells -/
def ssum (md : Nat) : Nat → Nat
  | 0 => 0
  | n + 1 => ssum md n + (shp md n).2
theorem ssum_mono (md : Nat) {a b : Nat} (h : a ≤ b) : ssum md a ≤ ssum md b := by
  induction b with
  | zero => have : a = 0 := by omega
            rw [this]; exact Nat.le_refl _
  | succ b ih =>
    by_cases e : a = b + 1
    · rw [e]; exact Nat.le_refl _
    · have := ih (by omega)
      show _ ≤ ssum md b + _
      omega
theorem ssum_rows (md N k : Nat) : ∀ n, (∀ j, j < n → (shp md (N + j)).2 = k) → ssum md (N + n) = ssum md N + n * k
  | 0, _ => by simp
  | n + 1, h => by
    show ssum md (N + n) + (shp md (N + n)).2 = _
    rw [ssum_rows md N k n (fun j hj => h j (by omega)), h n (by omega), Nat.succ_mul]
    omega
theorem aa_in {sz0 sb i : Nat} (h : i < 999999) : aa sz0 sb i = sz0 + i := by
  unfold aa
  rw [if_neg (by omega)]
theorem clr_at {β : Type} (f : Nat → Nat → β) (o : Nat) (v : β) (i j : Nat) : clr f o v i j = if i = o then v else f i j := by
  unfold clr
  by_cases h : i = o
  · subst h
    rw [if_pos rfl]
    simp [Nat.beq_refl]
  · have : Nat.beq i o = false := (Bool.not_eq_true _).mp (fun z => h (Nat.eq_of_beq_eq_true z))
    rw [if_neg h, this]; rfl
theorem clrR_at {β : Type} (f : Nat → Nat → β) (o n : Nat) (v : β) (i j : Nat) : clrR f o n v i j = if o ≤ i ∧ i ≤ o + n then v else f i j := by
  unfold clrR
  by_cases h : o ≤ i
  · by_cases h2 : i ≤ o + n
    · rw [if_pos ⟨h, h2⟩, Nat.ble_eq_true_of_le h, Nat.ble_eq_true_of_le h2]; rfl
    · have : Nat.ble i (o + n) = false := (Bool.not_eq_true _).mp (fun z => h2 (Nat.le_of_ble_eq_true z))
      rw [if_neg (fun z => h2 z.2), this, Bool.and_false]; rfl
  · have : Nat.ble o i = false := (Bool.not_eq_true _).mp (fun z => h (Nat.le_of_ble_eq_true z))
    rw [if_neg (fun z => h z.1), this]; rfl
section Alloc
variable {md : Nat} {G : gG} {sz0 sb scL : Nat} {scX : Nat → Int} {N0 Nf : Nat} {nL : Nat} {p : Program} {l : Launch} {e : Env} {R : Room} {s : State} {m : MethodId} {args : Array Value} {below : List Frame} {meth : Method} {c : Code} {Q : State → Prop}
variable {cc : ByteArray} {pc np : Nat} {L : List (Option av)} {S S' : List av} {N : Nat} {fi : tF} {fr : tR} {ai : tF} {al : tL}
theorem Wd.grow {α : Nat → Nat} {fi' : tF} {fr' : tR} {ai' : tF} {al' : tL} {U : State} {H H1 : Heap} {n : Nat} (h : Wd md G sz0 sb scL scX α N fi fr ai al U H) (hα : α = aa sz0 sb) (hN : N + n < 999999) (hz : H.size = sz0 + N) (hz1 : H.size ≤ H1.size) (o1 : ∀ q, q < H.size → H1[q]? = H[q]?)
    (hn : ∀ i, N ≤ i → i < N + n → cok md G α fi' fr' ai' al' i H1) (hk : ∀ i, i < N → ∀ k, fi' i k = fi i k ∧ fr' i k = fr i k ∧ ai' i k = ai i k ∧ al' i k = al i k) : Wd md G sz0 sb scL scX α (N + n) fi' fr' ai' al' U H1 := by
  refine ⟨fun i hi => ?_, fun i j hi hj _ _ hij => ?_, fun i hi _ => ?_, h.2.2.2.1.kept hz1 (fun q hq => o1 q ?_), fun q => ?_, h.2.2.2.2.2⟩
  · by_cases e : i < N
    · exact cok_to (h.1 i e) rfl (fun _ _ _ => rfl) (fun _ k _ => ⟨(hk i e k).1, by rw [(hk i e k).2.1]⟩) (fun _ j _ => (hk i e j).2.2.1) (fun _ j _ => (hk i e j).2.2.2) (fun hr => o1 _ (cok_lt (h.1 i e) hr))
    · exact hn i (by omega) hi
  · rw [hα, aa_in (by omega), aa_in (by omega)] at hij
    omega
  · rw [hα, aa_in (by omega)]; omega
  · have := h.2.2.2.1.2.2.1
    omega
  · have := h.2.2.2.2.1 q
    omega
theorem va_S.grow {A : Nat → Prop} {H0 H H1 : Heap} {locs : List Loc} (h : va_S A H0 H locs) (hz : H.size ≤ H1.size) (o1 : ∀ q, q < H.size → H1[q]? = H[q]?) : va_S A H0 H1 locs :=
  ⟨Nat.le_trans h.1 hz, fun q h1 h2 => (o1 q (Nat.lt_of_lt_of_le h1 h.1)).trans (h.2.1 q h1 h2), h.2.2⟩
theorem xn_new (hx : p.tables.exec = Jvm.exec) (hb : c.code = cc) {own : String} {a idx : Nat} {C : String} {T : u_T} {n : Nat} (hts : ∀ w ∈ gw, w.before args s = true) (hown : s.vm.findClass own = some m.cls) (hT : TK G s) (hc : classes[a]? = some (C, T, n)) (hn1 : ∀ i, (shp md i).1 = 10 + a → (shp md i).2 = n)
    (hcl : (Cond.classLink own idx C).before args s = true) (hinst : (Cond.instantiable C n).before args s = true) (hini : (Cond.initialized C).before args s = true) (hNf : Nf < 999999) (hRc : Nf - N0 ≤ R.cells) (hRs : ssum md Nf - ssum md N0 ≤ R.slots)
    (hd : decode cc pc = .ok (.new idx, np - pc)) (hn : np = pc + 3) (hK : (shp md N).1 = 10 + a) (hN : N + 1 ≤ Nf)
    (k : XW (OO md G sz0 sb scL scX s N0 Nf) (fun N => N - N0) (fun N => ssum md N - ssum md N0) nL p l e R s m args below meth c Q np L (.inr (.inl (some N)) :: S) (N + 1) (clr fi N 0) (clr fr N none) ai al) : XW (OO md G sz0 sb scL scX s N0 Nf) (fun N => N - N0) (fun N => ssum md N - ssum md N0) nL p l e R s m args below meth c Q pc L S N fi fr ai al := by
  subst hn
  rw [Nat.add_sub_cancel_left] at hd
  intro α H locs ls hO hl
  obtain ⟨hα, hN0, -, hsz, hW, hS⟩ := hO
  have hz := hsz (by omega)
  have hKn := hT.1 a _ hc
  have hs1 : ssum md (N + 1) = ssum md N + n := by show _ + _ = _; rw [hn1 N hK]
  have hs2 := ssum_mono md hN
  have hs3 := ssum_mono md hN0
  refine W.newcK hx hb hown hcl hinst hini rfl hd (by show N - N0 + 1 ≤ _; omega) (by show ssum md N - ssum md N0 + n ≤ _; omega) hKn.2.1 hz fun H1 kC hkC e1 z1 o1 => ?_
  have hW1 : Wd md G sz0 sb scL scX α (N + 1) (clr fi N 0) (clr fr N none) ai al s H1 := by
    refine hW.grow hα (by omega) hz (by omega) (fun q hq => o1 q (by omega)) (fun i h1 h2 => ?_) (fun i hi k => ⟨by rw [clr_at, if_neg (by omega)], by rw [clr_at, if_neg (by omega)], rfl, rfl⟩)
    have : i = N := by omega
    subst this
    refine ⟨fun q => by omega, fun q => by omega, fun q => by omega, fun q => by omega, fun a' ha' => ?_⟩
    have : a' = a := by omega
    subst this
    rw [hα, aa_in (by omega), hn1 i hK]
    refine (u_born (tyN a') hts (cl_in hc) hKn hkC e1 (cl_ty hc)).to (fun j hj => ?_)
    unfold fva
    rw [clr_at, clr_at, if_pos rfl, if_pos rfl]
    have hok := cl_kd hc j hj
    revert hok
    cases tyN a' j <;> intro hok <;> first | rfl | exact absurd hok (by decide)
  have hO1 : OO md G sz0 sb scL scX s N0 Nf α (N + 1) (clr fi N 0) (clr fr N none) ai al H1 locs := ⟨hα, by omega, hN, fun _ => by omega, hW1, hS.grow (by omega) (fun q hq => o1 q (by omega))⟩
  have k1 := k α H1 locs ls hO1 hl
  have e1 : N + 1 - N0 = N - N0 + 1 := by omega
  have e2 : ssum md (N + 1) - ssum md N0 = ssum md N - ssum md N0 + n := by omega
  have e3 : cv α (.inr (.inl (some N))) = .ref (sz0 + N) := by show Value.ref (α N) = _; rw [hα, aa_in (by omega)]
  rw [List.map_cons, e3] at k1
  rw [← e1, ← e2]
  exact k1
theorem xn_newa (hx : p.tables.exec = Jvm.exec) (hb : c.code = cc) {a : Nat} {atype : ArrayType} {z : Int} (hT : TK G s) (hat : newarray.typeOf atype = arT a) (ha : a ≤ 2) (harr : (Cond.arrayClass (arT a)).before args s = true) (hNf : Nf < 999999) (hRc : Nf - N0 ≤ R.cells) (hRs : ssum md Nf - ssum md N0 ≤ R.slots)
    (hsm : (shp md N).2 ≤ 10000000) (hd : decode cc pc = .ok (.newarray atype, np - pc)) (hn : np = pc + 2) (hK : (shp md N).1 = a) (hN : z = ((shp md N).2 : Int) ∧ N + 1 ≤ Nf)
    (k : XW (OO md G sz0 sb scL scX s N0 Nf) (fun N => N - N0) (fun N => ssum md N - ssum md N0) nL p l e R s m args below meth c Q np L (.inr (.inl (some N)) :: S) (N + 1) fi fr (clr ai N 0) (clr al N 0)) : XW (OO md G sz0 sb scL scX s N0 Nf) (fun N => N - N0) (fun N => ssum md N - ssum md N0) nL p l e R s m args below meth c Q pc L (.inl z :: S) N fi fr ai al := by
  subst hn
  rw [Nat.add_sub_cancel_left] at hd
  obtain ⟨rfl, hN⟩ := hN
  intro α H locs ls hO hl
  obtain ⟨hα, hN0, -, hsz, hW, hS⟩ := hO
  have hz := hsz (by omega)
  have hs1 : ssum md (N + 1) = ssum md N + (shp md N).2 := rfl
  have hs2 := ssum_mono md hN
  have hs3 := ssum_mono md hN0
  have hrz : rg ((shp md N).2 : Int) := ⟨by omega, by omega⟩
  have hby : (shp md N).2 * componentBytes (newarray.typeOf atype) ≤ 536870912 := by
    rw [hat]
    rcases (show a = 0 ∨ a = 1 ∨ a = 2 by omega) with rfl | rfl | rfl
    · show (shp md N).2 * 4 ≤ _; omega
    · show (shp md N).2 * 1 ≤ _; omega
    · show (shp md N).2 * 8 ≤ _; omega
  refine va_newaK hx hb (by rw [hat]; exact harr) rfl hd rfl (fun q => by have := (oi_lt hrz rg0).mp q; omega) (by show (Int32.ofInt _).toInt.toNat = _; rw [oi_toInt hrz]; rfl) hby (by show N - N0 + 1 ≤ _; omega) (by show ssum md N - ssum md N0 + _ ≤ _; omega) hz fun H1 cA e1 z1 o1 hAr hNm => ?_
  rw [hat] at e1 hNm
  have hcA : cA = G.2.2 a := by
    rcases (show a = 0 ∨ a = 1 ∨ a = 2 by omega) with rfl | rfl | rfl
    · exact Option.some.inj (hNm.symm.trans (hT.2 0 _ rfl).2)
    · exact Option.some.inj (hNm.symm.trans (hT.2 1 _ rfl).2)
    · exact Option.some.inj (hNm.symm.trans (hT.2 2 _ rfl).2)
  subst hcA
  have hW1 : Wd md G sz0 sb scL scX α (N + 1) fi fr (clr ai N 0) (clr al N 0) s H1 := by
    refine hW.grow hα (by omega) hz (by omega) (fun q hq => o1 q (by omega)) (fun i h1 h2 => ?_) (fun i hi k => ⟨rfl, rfl, by rw [clr_at, if_neg (by omega)], by rw [clr_at, if_neg (by omega)]⟩)
    have : i = N := by omega
    subst this
    have hα2 : α i = sz0 + i := by rw [hα, aa_in (by omega)]
    refine ⟨fun q => ?_, fun q => ?_, fun q => ?_, fun q => by omega, fun a' ha' => by omega⟩
    · have : a = 0 := by omega
      subst this
      rw [hα2, e1]
      refine congrArg (fun f => some (arrV _ _ f)) (funext fun j => ?_)
      rw [clr_at, if_pos rfl]; rfl
    · have : a = 1 := by omega
      subst this
      rw [hα2, e1]
      refine congrArg (fun f => some (arrV _ _ f)) (funext fun j => ?_)
      rw [clr_at, if_pos rfl]; rfl
    · have : a = 2 := by omega
      subst this
      rw [hα2, e1]
      refine congrArg (fun f => some (arrV _ _ f)) (funext fun j => ?_)
      rw [clr_at, if_pos rfl]; rfl
  have hO1 : OO md G sz0 sb scL scX s N0 Nf α (N + 1) fi fr (clr ai N 0) (clr al N 0) H1 locs := ⟨hα, by omega, hN, fun _ => by omega, hW1, hS.grow (by omega) (fun q hq => o1 q (by omega))⟩
  have k1 := k α H1 locs ls hO1 hl
  have f1 : N + 1 - N0 = N - N0 + 1 := by omega
  have f2 : ssum md (N + 1) - ssum md N0 = ssum md N - ssum md N0 + (shp md N).2 := by omega
  have f3 : cv α (.inr (.inl (some N))) = .ref (sz0 + N) := by show Value.ref (α N) = _; rw [hα, aa_in (by omega)]
  rw [List.map_cons, f3] at k1
  rw [← f1, ← f2]
  exact k1
end Alloc
