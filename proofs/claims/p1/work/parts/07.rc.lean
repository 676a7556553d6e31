/-! runs of a method in pictures: the least that is closed under the step (Rc); calls by depth (Call) -/
def fnd : List (Nat × Nat × Nat × Nat) → Nat → Nat → Option Nat
  | [], _, _ => none
  | (f, t, h, c) :: r, pc, x => bif Nat.ble f pc && Nat.ble (pc + 1) t && Nat.beq c x then some h else fnd r pc x
def exH (hs : List (Nat × Nat × Nat × Nat)) (ml : Nat) (P : ot) (Nf : Nat) (nx : kt) : xt := fun pc x N fi fr ai al => match fnd hs pc x with
  | some t => nx t (List.replicate ml none) [] N fi fr ai al
  | none => N = Nf ∧ P (.inr x) fi fr ai al
def stp (md : Nat) (K : ct) (m : mr) (P : ot) (Nf scL : Nat) (scX : Nat → Int) (nx : kt) : kt := fun pc L S N fi fr ai al => match Nat.ble m.2.1 pc with
  | true => False
  | false => st md K (exH m.2.2.2.2 m.2.2.1 P Nf nx) P Nf m.2.2.2.1 scL scX nx (m.1 pc) pc L S N fi fr ai al
def eqv (md N : Nat) (fi : tF) (fr : tR) (ai : tF) (al : tL) (fi' : tF) (fr' : tR) (ai' : tF) (al' : tL) : Prop := ∀ i, i < N → ∀ k, k < (shp md i).2 → (10 ≤ (shp md i).1 → fi i k = fi' i k ∧ fr i k = fr' i k) ∧ ((shp md i).1 ≤ 1 → ai i k = ai' i k) ∧ ((shp md i).1 = 2 → al i k = al' i k)
def Clo (md : Nat) (K : ct) (m : mr) (P : ot) (Nf scL : Nat) (scX : Nat → Int) (X : kt) : Prop :=
  (∀ pc L S N fi fr ai al, stp md K m P Nf scL scX X pc L S N fi fr ai al → X pc L S N fi fr ai al) ∧
  (∀ pc L S N fi fr ai al fi' fr' ai' al', eqv md N fi fr ai al fi' fr' ai' al' → X pc L S N fi' fr' ai' al' → X pc L S N fi fr ai al)
def Rc (md : Nat) (K : ct) (m : mr) (P : ot) (Nf scL : Nat) (scX : Nat → Int) : kt := fun pc L S N fi fr ai al => ∀ X : kt, Clo md K m P Nf scL scX X → X pc L S N fi fr ai al
def ent : List av → Nat → List (Option av)
  | [], n => List.replicate n none
  | .inr (.inr w) :: t, n => some (.inr (.inr w)) :: none :: ent t (n - 2)
  | .inl z :: t, n => some (.inl z) :: ent t (n - 1)
  | .inr (.inl r) :: t, n => some (.inr (.inl r)) :: ent t (n - 1)
def Call (md scL : Nat) (scX : Nat → Int) : Nat → ct
  | 0 => fun _ _ _ _ _ _ _ _ _ => False
  | d + 1 => fun y as N fi fr ai al N' P => (N ≤ N' ∧ Nat.ble (wsum as) (mt y).2.2.1 = true) ∧ Rc md (Call md scL scX d) (mt y) P N' scL scX 0 (ent as (mt y).2.2.1) [] N fi fr ai al
def cMono (K : ct) : Prop := ∀ y as N fi fr ai al N' (P P' : ot), (∀ o fi fr ai al, P o fi fr ai al → P' o fi fr ai al) → K y as N fi fr ai al N' P → K y as N fi fr ai al N' P'
theorem brn_mono {c : ClassFile.Cond} {x y : Int} {A B A' B' : Prop} (ha : A → A') (hb : B → B') (h : brn c x y A B) : brn c x y A' B' := by
  cases c <;> simp only [brn] at h ⊢
  · exact ⟨fun q => ha (h.1 q), fun q => ⟨(h.2 q).1, (h.2 q).2.1, hb (h.2 q).2.2⟩⟩
  · exact ⟨fun q => ⟨(h.1 q).1, (h.1 q).2.1, ha (h.1 q).2.2⟩, fun q => hb (h.2 q)⟩
  · exact ⟨h.1, fun q => ha (h.2.1 q), fun q => hb (h.2.2 q)⟩
  · exact ⟨h.1, fun q => ha (h.2.1 q), fun q => hb (h.2.2 q)⟩
  · exact ⟨h.1, fun q => ha (h.2.1 q), fun q => hb (h.2.2 q)⟩
  · exact ⟨h.1, fun q => ha (h.2.1 q), fun q => hb (h.2.2 q)⟩
theorem tsw_mono {f f' : Nat → Prop} (hf : ∀ t, f t → f' t) {z : Int} : ∀ (l : List Nat) (k : Int), tsw f z k l → tsw f' z k l
  | [], _, _ => trivial
  | _ :: l, _, h => ⟨fun q => hf _ (h.1 q), tsw_mono hf l _ h.2⟩
theorem lsw_mono {f f' : Nat → Prop} (hf : ∀ t, f t → f' t) {z : Int} {d : Nat} : ∀ (p : List (Int × Int)) (l : List Nat), lsw f z d p l → lsw f' z d p l
  | [], _, h => hf _ h
  | _ :: _, [], h => hf _ h
  | _ :: ps, _ :: ts, h => ⟨fun q => hf _ (h.1 q), fun q => lsw_mono hf ps ts (h.2 q)⟩
theorem spl_mono {k k' : List av → List av → Prop} (hk : ∀ a S, k a S → k' a S) : ∀ (n : Nat) (S acc : List av), spl n S acc k → spl n S acc k'
  | 0, _, _, h => hk _ _ h
  | _ + 1, [], _, h => h.elim
  | n + 1, _ :: S, _, h => spl_mono hk n S _ h
section Mono
variable {md : Nat} {K : ct} {ex ex' : xt} {P P' : ot} {Nf : Nat} {bz : Bool} {scL : Nat} {scX : Nat → Int} {nx nx' : kt}
theorem inv_mono (hK : cMono K) (he : ∀ pc x N fi fr ai al, ex pc x N fi fr ai al → ex' pc x N fi fr ai al) (hn : ∀ pc L S N fi fr ai al, nx pc L S N fi fr ai al → nx' pc L S N fi fr ai al)
    {y n rc pc np : Nat} {L : List (Option av)} {S : List av} {N : Nat} {fi : tF} {fr : tR} {ai : tF} {al : tL} (h : inv md K ex Nf nx y n rc pc np L S N fi fr ai al) : inv md K ex' Nf nx' y n rc pc np L S N fi fr ai al := by
  refine spl_mono (fun a S' h => ?_) _ _ _ h
  revert h
  split
  · rintro ⟨N', h1, h2⟩
    refine ⟨N', h1, hK _ _ _ _ _ _ _ _ _ _ (fun o fi fr ai al h => ?_) h2⟩
    revert h
    split
    · exact hn _ _ _ _ _ _ _ _
    · exact hn _ _ _ _ _ _ _ _
    · exact he _ _ _ _ _ _ _
  · exact id
theorem nat4_mono (hn : ∀ pc L S N fi fr ai al, nx pc L S N fi fr ai al → nx' pc L S N fi fr ai al)
    {y np : Nat} {L : List (Option av)} {S : List av} {N : Nat} {fi : tF} {fr : tR} {ai : tF} {al : tL} (h : nat4 md nx y np L S N fi fr ai al) : nat4 md nx' y np L S N fi fr ai al := by
  revert h
  unfold nat4
  repeat' split
  all_goals first | exact id | exact hn _ _ _ _ _ _ _ _ | exact fun h => ⟨h.1, hn _ _ _ _ _ _ _ _ h.2⟩
set_option maxHeartbeats 4000000 in
theorem st_mono (hK : cMono K) (he : ∀ pc x N fi fr ai al, ex pc x N fi fr ai al → ex' pc x N fi fr ai al) (hP : ∀ o fi fr ai al, P o fi fr ai al → P' o fi fr ai al) (hn : ∀ pc L S N fi fr ai al, nx pc L S N fi fr ai al → nx' pc L S N fi fr ai al)
    {e : en} {pc : Nat} {L : List (Option av)} {S : List av} {N : Nat} {fi : tF} {fr : tR} {ai : tF} {al : tL} (h : st md K ex P Nf bz scL scX nx e pc L S N fi fr ai al) : st md K ex' P' Nf bz scL scX nx' e pc L S N fi fr ai al := by
  obtain ⟨i, np, a, b, c, d, tl⟩ := e
  revert h
  unfold st
  dsimp only
  split
  all_goals (repeat' split)
  all_goals first
    | exact id
    | exact hn _ _ _ _ _ _ _ _
    | exact fun h => ⟨h.1, hn _ _ _ _ _ _ _ _ h.2⟩
    | exact brn_mono (hn _ _ _ _ _ _ _ _) (hn _ _ _ _ _ _ _ _)
    | exact fun h => ⟨fun q => hn _ _ _ _ _ _ _ _ (h.1 q), fun q => hn _ _ _ _ _ _ _ _ (h.2 q)⟩
    | exact fun h => ⟨h.1, fun q => hn _ _ _ _ _ _ _ _ (h.2.1 q), tsw_mono (fun _ => hn _ _ _ _ _ _ _ _) _ _ h.2.2⟩
    | exact fun h => ⟨h.1, lsw_mono (fun _ => hn _ _ _ _ _ _ _ _) _ _ h.2⟩
    | exact inv_mono hK he hn
    | exact nat4_mono hn
    | exact fun h => ⟨h.1, hP _ _ _ _ _ h.2⟩
    | exact fun h => ⟨h.1, h.2.1, hP _ _ _ _ _ h.2.2⟩
end Mono
theorem exH_mono {hs : List (Nat × Nat × Nat × Nat)} {ml Nf : Nat} {P P' : ot} {nx nx' : kt} (hP : ∀ o fi fr ai al, P o fi fr ai al → P' o fi fr ai al) (hn : ∀ pc L S N fi fr ai al, nx pc L S N fi fr ai al → nx' pc L S N fi fr ai al) :
    ∀ pc x N fi fr ai al, exH hs ml P Nf nx pc x N fi fr ai al → exH hs ml P' Nf nx' pc x N fi fr ai al := by
  intro pc x N fi fr ai al
  unfold exH
  split
  · exact hn _ _ _ _ _ _ _ _
  · exact fun h => ⟨h.1, hP _ _ _ _ _ h.2⟩
theorem stp_mono {md : Nat} {K : ct} {m : mr} {P P' : ot} {Nf scL : Nat} {scX : Nat → Int} {nx nx' : kt} (hK : cMono K) (hP : ∀ o fi fr ai al, P o fi fr ai al → P' o fi fr ai al) (hn : ∀ pc L S N fi fr ai al, nx pc L S N fi fr ai al → nx' pc L S N fi fr ai al) :
    ∀ pc L S N fi fr ai al, stp md K m P Nf scL scX nx pc L S N fi fr ai al → stp md K m P' Nf scL scX nx' pc L S N fi fr ai al := by
  intro pc L S N fi fr ai al
  unfold stp
  split
  · exact id
  · exact st_mono hK (exH_mono hP hn) hP hn
theorem Rc_mono {md : Nat} {K : ct} {m : mr} {P P' : ot} {Nf scL : Nat} {scX : Nat → Int} (hK : cMono K) (hP : ∀ o fi fr ai al, P o fi fr ai al → P' o fi fr ai al) {pc : Nat} {L : List (Option av)} {S : List av} {N : Nat} {fi : tF} {fr : tR} {ai : tF} {al : tL}
    (h : Rc md K m P Nf scL scX pc L S N fi fr ai al) : Rc md K m P' Nf scL scX pc L S N fi fr ai al :=
  fun X hX => h X ⟨fun _ _ _ _ _ _ _ _ q => hX.1 _ _ _ _ _ _ _ _ (stp_mono hK hP (fun _ _ _ _ _ _ _ _ => id) _ _ _ _ _ _ _ _ q), hX.2⟩
theorem Call_mono (md scL : Nat) (scX : Nat → Int) : ∀ d, cMono (Call md scL scX d)
  | 0 => fun _ _ _ _ _ _ _ _ _ _ _ h => h.elim
  | d + 1 => fun _ _ _ _ _ _ _ _ _ _ hP h => ⟨h.1, Rc_mono (Call_mono md scL scX d) hP h.2⟩
theorem Rc_clo {md : Nat} {K : ct} {m : mr} {P : ot} {Nf scL : Nat} {scX : Nat → Int} (hK : cMono K) : Clo md K m P Nf scL scX (Rc md K m P Nf scL scX) :=
  ⟨fun _ _ _ _ _ _ _ _ h X hX => hX.1 _ _ _ _ _ _ _ _ (stp_mono hK (fun _ _ _ _ _ => id) (fun _ _ _ _ _ _ _ _ q => q X hX) _ _ _ _ _ _ _ _ h), fun _ _ _ _ _ _ _ _ _ _ _ _ he h X hX => hX.2 _ _ _ _ _ _ _ _ _ _ _ _ he (h X hX)⟩
def mem1 : List Nat → Nat → Bool
  | [], _ => false
  | a :: t, x => Nat.beq a x || mem1 t x
/-- so many steps, no further than to one of the pcs -/
def vc (md : Nat) (K : ct) (m : mr) (P : ot) (Nf scL : Nat) (scX : Nat → Int) (cs : List Nat) (X : kt) : Nat → kt
  | 0 => X
  | n + 1 => fun pc L S N fi fr ai al => match mem1 cs pc with
    | true => X pc L S N fi fr ai al
    | false => stp md K m P Nf scL scX (vc md K m P Nf scL scX cs X n) pc L S N fi fr ai al
theorem vc_to {md : Nat} {K : ct} {m : mr} {P : ot} {Nf scL : Nat} {scX : Nat → Int} {cs : List Nat} {X : kt} (hK : cMono K) (hX : Clo md K m P Nf scL scX X) : ∀ n pc L S N fi fr ai al, vc md K m P Nf scL scX cs X n pc L S N fi fr ai al → X pc L S N fi fr ai al
  | 0, _, _, _, _, _, _, _, _, h => h
  | n + 1, pc, L, S, N, fi, fr, ai, al, h => by
    unfold vc at h
    revert h
    split
    · exact id
    · exact fun h => hX.1 _ _ _ _ _ _ _ _ (stp_mono hK (fun _ _ _ _ _ => id) (vc_to hK hX n) _ _ _ _ _ _ _ _ h)
theorem rc_go {md d : Nat} {m : mr} {P : ot} {Nf scL : Nat} {scX : Nat → Int} (cs : List Nat) (n : Nat) {pc : Nat} {L : List (Option av)} {S : List av} {N : Nat} {fi : tF} {fr : tR} {ai : tF} {al : tL}
    (h : stp md (Call md scL scX d) m P Nf scL scX (vc md (Call md scL scX d) m P Nf scL scX cs (Rc md (Call md scL scX d) m P Nf scL scX) n) pc L S N fi fr ai al) : Rc md (Call md scL scX d) m P Nf scL scX pc L S N fi fr ai al :=
  (Rc_clo (Call_mono md scL scX d)).1 _ _ _ _ _ _ _ _ (stp_mono (Call_mono md scL scX d) (fun _ _ _ _ _ => id) (vc_to (Call_mono md scL scX d) (Rc_clo (Call_mono md scL scX d)) n) _ _ _ _ _ _ _ _ h)
theorem rc_ext {md d : Nat} {m : mr} {P : ot} {Nf scL : Nat} {scX : Nat → Int} {pc : Nat} {L : List (Option av)} {S : List av} {N : Nat} {fi : tF} {fr : tR} {ai : tF} {al : tL} {fi' : tF} {fr' : tR} {ai' : tF} {al' : tL} (he : eqv md N fi fr ai al fi' fr' ai' al')
    (h : Rc md (Call md scL scX d) m P Nf scL scX pc L S N fi' fr' ai' al') : Rc md (Call md scL scX d) m P Nf scL scX pc L S N fi fr ai al := (Rc_clo (Call_mono md scL scX d)).2 _ _ _ _ _ _ _ _ _ _ _ _ he h
