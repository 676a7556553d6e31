/-! the law up to its switch, in the solver's mode: the heap behind both constructors as functions -/
noncomputable def lkp (l : List (Nat × Int)) (k : Nat) : Int := List.rec (motive := fun _ => Int) 0 (fun p _ ih => bif Nat.beq k p.1 then p.2 else ih) l
theorem tg_lkp {N : Nat} (hN : N ≤ 256) {k : Nat} (hk : k < 4294967296) : ∀ l : List (Nat × Int), lok N l = true → tg 32 (bld (t0 32) l) k = lkp l k
  | [], _ => tg_t0 32 k
  | p :: l, h => by
    obtain ⟨h1, h2⟩ := and_tt (h : ((Nat.ble (Nat.succ p.1) (N * 16777216) && (cnc p.2 || ieq p.2 jk)) && lok N l) = true)
    have h3 := Nat.le_of_ble_eq_true (and_tt h1).1
    have e : (2 : Nat) ^ 32 = 4294967296 := by decide
    show tg 32 (ts 32 (bld (t0 32) l) p.1 p.2) k = (bif Nat.beq k p.1 then p.2 else lkp l k)
    rw [tg_ts 32 _ _ _ _ (by rw [e]; omega) (by rw [e]; exact hk), tg_lkp hN hk l h2]
    by_cases hc : k = p.1
    · rw [if_pos hc, hc, Nat.beq_refl]; rfl
    · rw [if_neg hc]
      cases hb : Nat.beq k p.1
      · rfl
      · exact absurd (Nat.eq_of_beq_eq_true hb) hc
theorem lkp_no {a b k : Nat} (h1 : a ≤ k) (h2 : k ≤ b) : ∀ l : List (Nat × Int), l.all (fun p => !(Nat.ble a p.1 && Nat.ble p.1 b)) = true → lkp l k = 0
  | [], _ => rfl
  | p :: l, h => by
    obtain ⟨g1, g2⟩ := and_tt (h : ((!(Nat.ble a p.1 && Nat.ble p.1 b)) && l.all (fun p => !(Nat.ble a p.1 && Nat.ble p.1 b))) = true)
    have g1 : (!(Nat.ble a p.1 && Nat.ble p.1 b)) = true := g1
    show (bif Nat.beq k p.1 then p.2 else lkp l k) = 0
    cases hb : Nat.beq k p.1
    · exact lkp_no h1 h2 l g2
    · have := Nat.eq_of_beq_eq_true hb
      subst this
      rw [Nat.ble_eq_true_of_le h1, Nat.ble_eq_true_of_le h2] at g1
      exact nomatch g1
def h0I : tF := fun o k => bif Nat.beq o 0 then (bif Nat.beq k 12 then -1 else 0) else bif Nat.beq o 3 || Nat.beq o 16 then (bif Nat.beq k 6 then 40 else bif Nat.beq k 7 then 10 else bif Nat.beq k 8 || Nat.beq k 9 then -1 else 0) else bif Nat.beq o 49 then (bif Nat.beq k 6 then -1 else 0) else bif Nat.beq o 54 then (bif Nat.beq k 3 || Nat.beq k 36 then -1 else 0) else 0
def rwc (o : Nat) : Option Int := bif Nat.beq o 4 || Nat.beq o 17 then some 20 else bif Nat.beq o 5 || Nat.beq o 18 then some 5 else bif Nat.beq o 6 || Nat.beq o 19 then some 1 else bif Nat.beq o 7 || Nat.beq o 20 then some 10 else bif Nat.beq o 9 || Nat.beq o 22 then some 23 else bif Nat.beq o 10 || Nat.beq o 23 then some (-1) else bif Nat.beq o 14 || Nat.beq o 27 then some 2 else bif Nat.beq o 15 || Nat.beq o 28 then some 3 else bif Nat.beq o 31 || Nat.beq o 51 then some (-1) else bif Nat.beq o 59 then some (-1) else bif Nat.beq o 60 then some 2 else bif Nat.beq o 57 || (Nat.beq o 58 || Nat.beq o 231) then none else some 0
def rvO (r : Option Int) (k : Nat) : Int := match r with
  | some v => v
  | none => tvf k
def h0A : tF := fun o k => rvO (rwc o) k
def h0L : tL := fun _ _ => 0
noncomputable def noE (l : List (Nat × Int)) (i : Nat) : Bool := l.all (fun p => !(Nat.ble (ky i 0) p.1 && Nat.ble p.1 (ky i 8388607)))
noncomputable def oqN : Option Nat → Option Nat → Bool
  | none, none => true
  | some a, some b => Nat.beq a b
  | _, _ => false
theorem oqN_ok : ∀ {a b : Option Nat}, oqN a b = true → a = b
  | none, none, _ => rfl
  | some a, some b, h => by rw [Nat.eq_of_beq_eq_true (h : Nat.beq a b = true)]
  | none, some _, h => nomatch h
  | some _, none, h => nomatch h
noncomputable def ckV (l : List (Nat × Int)) (i n : Nat) (v : Int) : Bool := (List.range n).all (fun k => ieq (lkp l (ky i k)) v)
noncomputable def ckT (l : List (Nat × Int)) (i : Nat) : Bool := (List.range 17).all (fun k => cnc (tvf k) && ieq (lkp l (ky i k)) (tvf k))
noncomputable def ckR (l : List (Nat × Int)) (i n : Nat) (r : Option Int) : Bool := match r with
  | some v => cnc v && (bif ieq v (Int.ofNat 0) then noE l i else ckV l i n v)
  | none => Nat.ble n 17 && ckT l i
noncomputable def ckA (l : List (Nat × Int)) (i : Nat) : Bool := bif Nat.ble (shp 11 i).1 1 then ckR l i (shp 11 i).2 (rwc i) else true
noncomputable def ckQ (l : List (Nat × Int)) (i n : Nat) : Bool := (List.range n).all (fun k => cnc (h0I i k) && (ieq (lkp l (ky i k)) (h0I i k) && oqN (rR (lkp l (kr i k))) (frB i k)))
noncomputable def ckO (l : List (Nat × Int)) (i : Nat) : Bool := bif Nat.ble 10 (shp 11 i).1 then ckQ l i (shp 11 i).2 else true
noncomputable def ckL (l : List (Nat × Int)) (i : Nat) : Bool := bif Nat.beq (shp 11 i).1 2 then noE l i else true
noncomputable def ckX (l : List (Nat × Int)) : Bool := (List.range 233).all fun i => ckA l i && (ckO l i && ckL l i)
theorem rw_ok {l : List (Nat × Int)} {i n : Nat} {r : Option Int} {k : Nat} (hk : k < n) (h8 : k < 8388608) (h : ckR l i n r = true) : cnc (lkp l (ky i k)) = true ∧ lkp l (ky i k) = rvO r k := by
  cases r with
  | some v =>
    obtain ⟨d1, d2⟩ := and_tt (h : (cnc v && (bif ieq v (Int.ofNat 0) then noE l i else ckV l i n v)) = true)
    show cnc (lkp l (ky i k)) = true ∧ lkp l (ky i k) = v
    cases hv : ieq v (Int.ofNat 0)
    · rw [hv, cond_false] at d2
      have d3 := (ieq_iff _ _).mp (List.all_eq_true.mp d2 k (List.mem_range.mpr hk))
      rw [d3]
      exact ⟨d1, rfl⟩
    · rw [hv, cond_true] at d2
      have e := lkp_no (a := ky i 0) (b := ky i 8388607) (k := ky i k) (by unfold ky; omega) (by unfold ky; omega) l d2
      have hv := (ieq_iff _ _).mp hv
      rw [e]
      exact ⟨rfl, hv.symm⟩
  | none =>
    obtain ⟨d1, d2⟩ := and_tt (h : (Nat.ble n 17 && ckT l i) = true)
    have d1 := Nat.le_of_ble_eq_true d1
    obtain ⟨d3, d4⟩ := and_tt (List.all_eq_true.mp d2 k (List.mem_range.mpr (by omega)))
    have d4 := (ieq_iff _ _).mp d4
    show cnc (lkp l (ky i k)) = true ∧ lkp l (ky i k) = tvf k
    rw [d4]
    exact ⟨d3, rfl⟩
theorem eqv_gen {l : List (Nat × Int)} {T : Tr 32} (hT : ∀ k, k < 4294967296 → tg 32 T k = lkp l k) (hck : ckX l = true) {ρ : Nat → Int} {fi : tF} {fr : tR} {ai : tF} {al : tL} (h : hp ρ 11 233 T fi fr ai al) : eqv 11 233 fi fr ai al h0I frB h0A h0L := by
  intro i hi k hk
  have hS : (shp 11 i).2 ≤ 8388608 := shp_le0 (md := 1) (by decide) i (by omega)
  obtain ⟨h1, h2, h3⟩ := h i hi k (by omega)
  obtain ⟨c1, c2⟩ := and_tt (List.all_eq_true.mp hck i (List.mem_range.mpr hi))
  obtain ⟨c2, c3⟩ := and_tt c2
  have e1 : tg 32 T (ky i k) = lkp l (ky i k) := hT _ (by unfold ky; omega)
  have e2 : tg 32 T (kr i k) = lkp l (kr i k) := hT _ (by unfold kr; omega)
  rw [e1] at h1 h2 h3
  rw [e2] at h1
  refine ⟨fun q => ?_, fun q => ?_, fun q => ?_⟩
  · obtain ⟨g1, g2⟩ := h1 q
    unfold ckO at c2
    rw [Nat.ble_eq_true_of_le q, cond_true] at c2
    obtain ⟨d1, d2⟩ := and_tt (List.all_eq_true.mp c2 k (List.mem_range.mpr hk))
    obtain ⟨d2, d3⟩ := and_tt d2
    rw [(ieq_iff _ _).mp d2] at g1
    exact ⟨gm_c d1 g1, g2.trans (oqN_ok d3)⟩
  · have g1 := h2 q
    unfold ckA at c1
    rw [Nat.ble_eq_true_of_le q, cond_true] at c1
    obtain ⟨d1, d2⟩ := rw_ok hk (by omega) c1
    rw [gm_c d1 g1, d2]
    rfl
  · have g1 := h3 q
    unfold ckL at c3
    rw [q] at c3
    have c3 : noE l i = true := c3
    have e := lkp_no (a := ky i 0) (b := ky i 8388607) (k := ky i k) (by unfold ky; omega) (by unfold ky; omega) l c3
    rw [e] at g1
    exact g1.1 rfl
set_option maxRecDepth 1000000 in
theorem ck_all : ckX l_124 = true := by decide +kernel
theorem lok_124b : lok 232 l_124 = true := (and_tt (and_tt lok_all).2).1
theorem T_124_lkp (k : Nat) (hk : k < 4294967296) : tg 32 T_124 k = lkp l_124 k := tg_lkp (N := 232) (by decide) hk l_124 lok_124b
theorem eqv_h0 {ρ : Nat → Int} {fi : tF} {fr : tR} {ai : tF} {al : tL} (h : hp ρ 11 233 T_124 fi fr ai al) : eqv 11 233 fi fr ai al h0I frB h0A h0L := eqv_gen T_124_lkp ck_all h
section Law
variable {scX : Nat → Int} {P : ot} {Nf : Nat}
theorem rcl_go {d : Nat} {m : mr} {scL : Nat} (cs : List Nat) (n : Nat) {pc : Nat} {L : List (Option av)} {S : List av} {N : Nat} {fi : tF} {fr : tR} {ai : tF} {al : tL}
    (h : stp 11 (KL 1 scL scX d) m P Nf scL scX (vc 11 (KL 1 scL scX d) m P Nf scL scX cs (Rc 11 (KL 1 scL scX d) m P Nf scL scX) n) pc L S N fi fr ai al) : Rc 11 (KL 1 scL scX d) m P Nf scL scX pc L S N fi fr ai al :=
  (Rc_clo (KL_mono 1 scL scX d)).1 _ _ _ _ _ _ _ _ (stp_mono (KL_mono 1 scL scX d) (fun _ _ _ _ _ => id) (vc_to (KL_mono 1 scL scX d) (Rc_clo (KL_mono 1 scL scX d)) n) _ _ _ _ _ _ _ _ h)
theorem rcl_ext {d : Nat} {m : mr} {scL : Nat} {pc : Nat} {L : List (Option av)} {S : List av} {N : Nat} {fi : tF} {fr : tR} {ai : tF} {al : tL} {fi' : tF} {fr' : tR} {ai' : tF} {al' : tL} (he : eqv 11 N fi fr ai al fi' fr' ai' al')
    (h : Rc 11 (KL 1 scL scX d) m P Nf scL scX pc L S N fi' fr' ai' al') : Rc 11 (KL 1 scL scX d) m P Nf scL scX pc L S N fi fr ai al := (Rc_clo (KL_mono 1 scL scX d)).2 _ _ _ _ _ _ _ _ _ _ _ _ he h
end Law
set_option maxRecDepth 1000000 in
theorem kx_63b : okX 11 20000 20 63 [.inr (.inl (some 0))] 1 (t0 32) (.inl none) 54 T_63 = true := by decide +kernel
set_option maxRecDepth 1000000 in
theorem kx_124b : okX 11 20000 20 124 [.inr (.inl (some 54))] 55 T_63 (.inl none) 232 T_124 = true := by decide +kernel
