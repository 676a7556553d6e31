/-! THE EVALUATOR: the pure step on trees, such that the kernel can run it. Numbers below 2^40 are themselves; 2^40 + t is a name (a token) of an unknown number whose bounds are known; 2^41 is any number -/
noncomputable abbrev rs : Type := (Option av ⊕ Nat) × Nat × Tr 32
noncomputable abbrev nt : Type := Nat → List (Option av) → List av → Nat → Tr 32 → Option rs
noncomputable abbrev ivt : Type := Nat → Nat → Nat → Nat → Nat → List (Option av) → List av → Nat → Tr 32 → Option rs
/-- mode, length of the script, script, bounds of tokens, what token 0 is under the mask 63 -/
noncomputable abbrev eE : Type := Nat × Nat × (Nat → Int) × (Nat → Int × Int) × Int
noncomputable abbrev ef : Type := eE → nt → ivt → Nat → List (Option av) → List av → Nat → Tr 32 → Option rs
noncomputable def ky (o k : Nat) : Nat := o * 16777216 + k
noncomputable def kr (o k : Nat) : Nat := o * 16777216 + (8388608 + k)
noncomputable def ilt : Int → Int → Bool
  | .ofNat a, .ofNat b => Nat.ble (Nat.succ a) b
  | .ofNat _, .negSucc _ => false
  | .negSucc _, .ofNat _ => true
  | .negSucc a, .negSucc b => Nat.ble (Nat.succ b) a
noncomputable def ieq : Int → Int → Bool
  | .ofNat a, .ofNat b => Nat.beq a b
  | .ofNat _, .negSucc _ => false
  | .negSucc _, .ofNat _ => false
  | .negSucc a, .negSucc b => Nat.beq a b
noncomputable def cnc (z : Int) : Bool := match z with
  | .ofNat n => Nat.ble n 1099511627775
  | .negSucc _ => true
noncomputable def jk : Int := Int.ofNat 2199023255552
noncomputable def nz (z : Int) : Int := bif cnc z then z else jk
noncomputable def frn {α : Type} (n : Nat) (k : Nat → α) : α := match n with
  | 0 => k 0
  | m + 1 => k (Nat.succ m)
noncomputable def frq {α : Type} (z : Int) (k : Int → α) : α := match z with
  | .ofNat n => (match n with
    | 0 => k (.ofNat 0)
    | m + 1 => k (.ofNat (Nat.succ m)))
  | .negSucc n => (match n with
    | 0 => k (.negSucc 0)
    | m + 1 => k (.negSucc (Nat.succ m)))
noncomputable def cR (r : Option Nat) : Int := match r with
  | none => Int.ofNat 0
  | some n => Int.ofNat (Nat.succ n)
noncomputable def rR (z : Int) : Option Nat := match z with
  | .ofNat n => (match n with
    | 0 => none
    | m + 1 => some m)
  | .negSucc _ => none
noncomputable def frr {α : Type} (z : Int) (k : Option Nat → α) : α := match z with
  | .ofNat n => (match n with
    | 0 => k none
    | m + 1 => k (some m))
  | .negSucc _ => k none
noncomputable def inbB (j : Int) (n : Nat) : Bool := match j with
  | .ofNat a => Nat.ble (Nat.succ a) n
  | .negSucc _ => false
noncomputable def rgB (x : Int) : Bool := !(ilt x (Int.negSucc 2147483647)) && !(ilt (Int.ofNat 2147483647) x)
noncomputable def rng (tr : Nat → Int × Int) (z : Int) : Option (Int × Int) := bif cnc z then some (z, z) else (match z with
  | .ofNat n => bif Nat.ble n 2199023255551 && !(ilt (tr (n - 1099511627776)).2 (tr (n - 1099511627776)).1) then some (tr (n - 1099511627776)) else none
  | .negSucc _ => none)
noncomputable def cmpC (c : ClassFile.Cond) (x y : Int) : Bool := match c with
  | .eq => ieq x y
  | .ne => !(ieq x y)
  | .lt => ilt x y
  | .ge => !(ilt x y)
  | .gt => ilt y x
  | .le => !(ilt y x)
noncomputable def cmpW (c : ClassFile.Cond) (a b p q : Int) : Option Bool := match c with
  | .eq => none
  | .ne => none
  | .lt => bif ilt a q then none else some false
  | .ge => bif ilt a q then none else some true
  | .gt => bif ilt p b then none else some false
  | .le => bif ilt p b then none else some true
noncomputable def cmpT (tr : Nat → Int × Int) (c : ClassFile.Cond) (x y : Int) : Option Bool := match rng tr x, rng tr y with
  | some (a, b), some (p, q) => bif rgB a && rgB b && (rgB p && rgB q) then (bif ilt b p then some (cmpC c 0 1) else bif ilt q a then some (cmpC c 1 0) else bif ieq x y then some (cmpC c 0 0) else cmpW c a b p q) else none
  | _, _ => none
noncomputable def cmpA (tr : Nat → Int × Int) (c : ClassFile.Cond) (x y : Int) : Option Bool := bif cnc x && cnc y then (bif rgB x && rgB y then some (cmpC c x y) else none) else cmpT tr c x y
noncomputable def tsF (z : Int) : Int → List Nat → Option Nat
  | _, [] => none
  | k, t :: l => bif ieq z k then some t else tsF z (k + 1) l
noncomputable def lsF (z : Int) (dflt : Nat) : List (Int × Int) → List Nat → Nat
  | p :: ps, t :: l => bif ieq z p.1 then t else lsF z dflt ps l
  | _, _ => dflt
noncomputable def cpB (T : Tr 32) (a sp b dp : Nat) : Nat → Tr 32
  | 0 => T
  | n + 1 => ts 32 (cpB T a sp b dp n) (ky b (dp + n)) (tg 32 T (ky a (sp + n)))
noncomputable def splB : Nat → List av → List av → Option (List av × List av)
  | 0, S, acc => some (acc, S)
  | _ + 1, [], _ => none
  | n + 1, v :: S, acc => splB n S (v :: acc)
noncomputable def a_no : ef := fun _ _ _ _ _ _ _ _ => none
noncomputable def a_con (v : av) (np : Nat) : ef := fun _ nx _ _ L S N T => nx np L (v :: S) N T
noncomputable def a_ild (k np : Nat) : ef := fun _ nx _ _ L S N T => match gl L k with
  | some (.inl z) => nx np L (.inl z :: S) N T
  | _ => none
noncomputable def a_ald (k np : Nat) : ef := fun _ nx _ _ L S N T => match gl L k with
  | some (.inr (.inl r)) => nx np L (.inr (.inl r) :: S) N T
  | _ => none
noncomputable def a_lld (k np : Nat) : ef := fun _ nx _ _ L S N T => match gl L k with
  | some (.inr (.inr w)) => nx np L (.inr (.inr w) :: S) N T
  | _ => none
noncomputable def a_ist (k np : Nat) : ef := fun _ nx _ _ L S N T => match S with
  | .inl z :: S' => nx np (sl L k (.inl z)) S' N T
  | _ => none
noncomputable def a_ast (k np : Nat) : ef := fun _ nx _ _ L S N T => match S with
  | .inr (.inl r) :: S' => nx np (sl L k (.inr (.inl r))) S' N T
  | _ => none
noncomputable def a_inc (k : Nat) (n : Int) (np : Nat) : ef := fun _ nx _ _ L S N T => match gl L k with
  | some (.inl z) => bif cnc z then frq (nz (z + n)) (fun z => nx np (sl L k (.inl z)) S N T) else nx np (sl L k (.inl jk)) S N T
  | _ => none
noncomputable def a_dup (np : Nat) : ef := fun _ nx _ _ L S N T => match S with
  | v :: S' => bif c1 v then nx np L (v :: v :: S') N T else none
  | _ => none
noncomputable def a_dp2 (np : Nat) : ef := fun _ nx _ _ L S N T => match S with
  | v :: w :: S' => bif c1 v && c1 w then nx np L (v :: w :: v :: w :: S') N T else none
  | _ => none
noncomputable def a_pop (np : Nat) : ef := fun _ nx _ _ L S N T => match S with
  | v :: S' => bif c1 v then nx np L S' N T else none
  | _ => none
noncomputable def a_bin (f : Int → Int → Int) (np : Nat) : ef := fun _ nx _ _ L S N T => match S with
  | .inl y :: .inl x :: S' => bif cnc x && cnc y then frq (nz (f x y)) (fun z => nx np L (.inl z :: S') N T) else nx np L (.inl jk :: S') N T
  | _ => none
noncomputable def a_and (np : Nat) : ef := fun E nx _ _ L S N T => match S with
  | .inl y :: .inl x :: S' => bif cnc x && cnc y then frq (nz (b32 (fun p q => p &&& q) x y)) (fun z => nx np L (.inl z :: S') N T) else bif Nat.ble E.2.1 6 && (ieq x (Int.ofNat 1099511627776) && ieq y (Int.ofNat 63)) then nx np L (.inl E.2.2.2.2 :: S') N T else nx np L (.inl jk :: S') N T
  | _ => none
noncomputable def a_div (f : Int → Int → Int) (np : Nat) : ef := fun _ nx _ _ L S N T => match S with
  | .inl y :: .inl x :: S' => bif (cnc x && cnc y) && (rgB x && rgB y && !(ieq y (Int.ofNat 0))) then frq (nz (f x y)) (fun z => nx np L (.inl z :: S') N T) else none
  | _ => none
noncomputable def a_lbn (f : Int64 → Int64 → Int64) (np : Nat) : ef := fun _ nx _ _ L S N T => match S with
  | .inr (.inr y) :: .inr (.inr x) :: S' => nx np L (.inr (.inr (f x y)) :: S') N T
  | _ => none
noncomputable def a_lsh (f : Int → Int64 → Int64) (np : Nat) : ef := fun _ nx _ _ L S N T => match S with
  | .inl y :: .inr (.inr x) :: S' => bif cnc y then nx np L (.inr (.inr (f y x)) :: S') N T else none
  | _ => none
noncomputable def a_lcm (np : Nat) : ef := fun _ nx _ _ L S N T => match S with
  | .inr (.inr y) :: .inr (.inr x) :: S' => frq (nz (lg_cmp x y).toInt) (fun z => nx np L (.inl z :: S') N T)
  | _ => none
noncomputable def a_i2l (np : Nat) : ef := fun _ nx _ _ L S N T => match S with
  | .inl x :: S' => bif cnc x then nx np L (.inr (.inr (Int32.ofInt x).toInt64) :: S') N T else none
  | _ => none
noncomputable def a_l2i (np : Nat) : ef := fun _ nx _ _ L S N T => match S with
  | .inr (.inr x) :: S' => frq (nz x.toInt32.toInt) (fun z => nx np L (.inl z :: S') N T)
  | _ => none
noncomputable def a_i2b (np : Nat) : ef := fun _ nx _ _ L S N T => match S with
  | .inl x :: S' => bif cnc x then frq (nz (byt x)) (fun z => nx np L (.inl z :: S') N T) else nx np L (.inl jk :: S') N T
  | _ => none
noncomputable def a_jmp (a : Nat) : ef := fun _ nx _ _ L S N T => nx a L S N T
noncomputable def a_icm (c : ClassFile.Cond) (a np : Nat) : ef := fun E nx _ _ L S N T => match S with
  | .inl y :: .inl x :: S' => (match cmpA E.2.2.2.1 c x y with
    | some b => bif b then nx a L S' N T else nx np L S' N T
    | none => none)
  | _ => none
noncomputable def a_icn (c : ClassFile.Cond) (a np : Nat) : ef := fun E nx _ _ L S N T => match S with
  | .inl x :: S' => (match cmpA E.2.2.2.1 c x (Int.ofNat 0) with
    | some b => bif b then nx a L S' N T else nx np L S' N T
    | none => none)
  | _ => none
/-- jumps to a where there is nothing, to np where there is something -/
noncomputable def a_nul (a np : Nat) : ef := fun _ nx _ _ L S N T => match S with
  | .inr (.inl r) :: S' => (match r with
    | none => nx a L S' N T
    | some _ => nx np L S' N T)
  | _ => none
noncomputable def a_tsw (a : Nat) (lo hi : Int) (tl : List Nat) : ef := fun E nx _ _ L S N T => match S with
  | .inl z :: S' => (match rng E.2.2.2.1 z with
    | some (p, q) => bif rgB p && rgB q then (bif ilt q lo || ilt hi p then nx a L S' N T else bif cnc z then (match tsF z lo tl with
      | some t => nx t L S' N T
      | none => none) else none) else none
    | none => none)
  | _ => none
noncomputable def a_lsw (a : Nat) (ps : List (Int × Int)) (tl : List Nat) : ef := fun E nx _ _ L S N T => match S with
  | .inl z :: S' => bif cnc z && rgB z then nx (lsF z a ps tl) L S' N T else (match rng E.2.2.2.1 z with
    | some (p, q) => bif (rgB p && rgB q) && ps.all (fun k => ilt q k.1 || ilt k.1 p) then nx a L S' N T else none
    | none => none)
  | _ => none
noncomputable def a_gfi (a b np : Nat) : ef := fun E nx _ _ L S N T => match S with
  | .inr (.inl (some o)) :: S' => bif isK E.1 o (10 + a) N then frq (tg 32 T (ky o b)) (fun z => nx np L (.inl z :: S') N T) else none
  | _ => none
noncomputable def a_gfr (a b np : Nat) : ef := fun E nx _ _ L S N T => match S with
  | .inr (.inl (some o)) :: S' => bif isK E.1 o (10 + a) N then frr (tg 32 T (kr o b)) (fun r => nx np L (.inr (.inl r) :: S') N T) else none
  | _ => none
noncomputable def a_pfi (a b np : Nat) : ef := fun E nx _ _ L S N T => match S with
  | .inl z :: .inr (.inl (some o)) :: S' => bif isK E.1 o (10 + a) N then nx np L S' N (ts 32 T (ky o b) z) else none
  | _ => none
noncomputable def a_pfz (a b np : Nat) : ef := fun E nx _ _ L S N T => match S with
  | .inl z :: .inr (.inl (some o)) :: S' => bif isK E.1 o (10 + a) N && (ieq z (Int.ofNat 0) || ieq z (Int.ofNat 1)) then nx np L S' N (ts 32 T (ky o b) z) else none
  | _ => none
noncomputable def a_pfr (a b np : Nat) : ef := fun E nx _ _ L S N T => match S with
  | .inr (.inl r) :: .inr (.inl (some o)) :: S' => bif isK E.1 o (10 + a) N then nx np L S' N (ts 32 T (kr o b) (cR r)) else none
  | _ => none
noncomputable def a_ial (np : Nat) : ef := fun E nx _ _ L S N T => match S with
  | .inl j :: .inr (.inl (some o)) :: S' => bif Nat.beq o 999999 then (bif Nat.ble E.2.1 6 && (cnc j && inbB j E.2.1) then nx np L (.inl (E.2.2.1 j.toNat) :: S') N T else none) else (bif isK E.1 o 0 N && (cnc j && inbB j (shp E.1 o).2) then frq (tg 32 T (ky o j.toNat)) (fun z => nx np L (.inl z :: S') N T) else none)
  | _ => none
noncomputable def a_ias (np : Nat) : ef := fun E nx _ _ L S N T => match S with
  | .inl z :: .inl j :: .inr (.inl (some o)) :: S' => bif isK E.1 o 0 N && (cnc j && inbB j (shp E.1 o).2) then frn (ky o j.toNat) (fun p => nx np L S' N (ts 32 T p z)) else none
  | _ => none
noncomputable def a_bal (np : Nat) : ef := fun E nx _ _ L S N T => match S with
  | .inl j :: .inr (.inl (some o)) :: S' => bif isK E.1 o 1 N && (cnc j && inbB j (shp E.1 o).2) then frq (tg 32 T (ky o j.toNat)) (fun z => nx np L (.inl z :: S') N T) else none
  | _ => none
noncomputable def a_bas (np : Nat) : ef := fun E nx _ _ L S N T => match S with
  | .inl z :: .inl j :: .inr (.inl (some o)) :: S' => bif isK E.1 o 1 N && (cnc j && inbB j (shp E.1 o).2) then frn (ky o j.toNat) (fun p => bif cnc z then frq (nz (byt z)) (fun z => nx np L S' N (ts 32 T p z)) else nx np L S' N (ts 32 T p jk)) else none
  | _ => none
noncomputable def a_lal (np : Nat) : ef := fun E nx _ _ L S N T => match S with
  | .inl j :: .inr (.inl (some o)) :: S' => bif isK E.1 o 2 N && (cnc j && inbB j (shp E.1 o).2) then frq (tg 32 T (ky o j.toNat)) (fun z => bif cnc z then nx np L (.inr (.inr (Int64.ofInt z)) :: S') N T else none) else none
  | _ => none
noncomputable def a_las (np : Nat) : ef := fun E nx _ _ L S N T => match S with
  | .inr (.inr w) :: .inl j :: .inr (.inl (some o)) :: S' => bif isK E.1 o 2 N && (cnc j && inbB j (shp E.1 o).2) then frn (ky o j.toNat) (fun p => frq (nz w.toInt) (fun z => nx np L S' N (ts 32 T p z))) else none
  | _ => none
noncomputable def a_aal (np : Nat) : ef := fun E nx _ _ L S N T => match S with
  | .inl j :: .inr (.inl (some o)) :: S' => bif isK E.1 o 3 N && (cnc j && inbB j (shp E.1 o).2) then frn (o + 1 + j.toNat) (fun p => nx np L (.inr (.inl (some p)) :: S') N T) else none
  | _ => none
noncomputable def a_len (np : Nat) : ef := fun E nx _ _ L S N T => match S with
  | .inr (.inl (some o)) :: S' => bif Nat.beq o 999999 then (bif Nat.ble E.2.1 6 then nx np L (.inl (Int.ofNat E.2.1) :: S') N T else none) else (bif isAr E.1 o N && Nat.ble (shp E.1 o).2 1099511627775 then nx np L (.inl (Int.ofNat (shp E.1 o).2) :: S') N T else none)
  | _ => none
noncomputable def a_thr (x : Nat) : ef := fun E _ _ _ _ S N T => bif Nat.beq (shp E.1 N).1 9 && Nat.ble (wsum S) 60 then some (.inr x, N + 1, T) else none
noncomputable def a_new (a np : Nat) : ef := fun E nx _ _ L S N T => bif Nat.beq (shp E.1 N).1 (10 + a) then frn (N + 1) (fun M => nx np L (.inr (.inl (some N)) :: S) M T) else none
noncomputable def a_nar (a np : Nat) : ef := fun E nx _ _ L S N T => match S with
  | .inl z :: S' => bif Nat.beq (shp E.1 N).1 a && (cnc z && ieq z (Int.ofNat (shp E.1 N).2)) then frn (N + 1) (fun M => nx np L (.inr (.inl (some N)) :: S') M T) else none
  | _ => none
noncomputable def a_mna (np : Nat) : ef := fun E nx _ _ L S N T => match S with
  | .inl w :: .inl z :: S' => bif Nat.beq (shp E.1 N).1 3 && gridok E.1 N (shp E.1 N).2 (shp E.1 (N + 1)).2 && ((cnc z && ieq z (Int.ofNat (shp E.1 N).2)) && (cnc w && ieq w (Int.ofNat (shp E.1 (N + 1)).2))) then frn (N + 1 + (shp E.1 N).2) (fun M => nx np L (.inr (.inl (some N)) :: S') M T) else none
  | _ => none
noncomputable def a_min (np : Nat) : ef := fun _ nx _ _ L S N T => match S with
  | .inl w :: .inl z :: S' => bif Nat.ble (wsum S') 8 && ((cnc z && cnc w) && (rgB z && rgB w)) then nx np L (.inl (bif ilt z w then z else w) :: S') N T else none
  | _ => none
noncomputable def a_max (np : Nat) : ef := fun _ nx _ _ L S N T => match S with
  | .inl w :: .inl z :: S' => bif Nat.ble (wsum S') 8 && ((cnc z && cnc w) && (rgB z && rgB w)) then nx np L (.inl (bif ilt z w then w else z) :: S') N T else none
  | _ => none
noncomputable def a_cpy (np : Nat) : ef := fun E nx _ _ L S N T => match S with
  | .inl n :: .inl dp :: .inr (.inl (some b)) :: .inl sp :: .inr (.inl (some a)) :: S' => bif (isK E.1 a 0 N && isK E.1 b 0 N && Nat.ble (wsum S') 8) && ((cnc n && cnc sp && cnc dp) && (!(ilt n (Int.ofNat 0)) && !(ilt sp (Int.ofNat 0)) && !(ilt dp (Int.ofNat 0)) && (!(ilt (Int.ofNat (shp E.1 a).2) (sp + n)) && !(ilt (Int.ofNat (shp E.1 b).2) (dp + n))))) then nx np L S' N (cpB T a sp.toNat b dp.toNat n.toNat) else none
  | _ => none
noncomputable def a_obj (np : Nat) : ef := fun _ nx _ _ L S N T => match S with
  | .inr (.inl (some _)) :: S' => bif Nat.ble (wsum S') 8 then nx np L S' N T else none
  | _ => none
noncomputable def a_nat (y np : Nat) : ef := match y with
  | 1000 => a_min np
  | 1001 => a_max np
  | 1002 => a_cpy np
  | 1003 => a_obj np
  | _ => a_no
noncomputable def a_inv (y n rc np : Nat) : ef := fun _ _ iv pc L S N T => iv y n rc pc np L S N T
noncomputable def a_irt (bz : Bool) : ef := fun _ _ _ _ _ S N T => match S with
  | [.inl z] => bif bz then (bif ieq z (Int.ofNat 0) || ieq z (Int.ofNat 1) then some (.inl (some (.inl z)), N, T) else none) else some (.inl (some (.inl z)), N, T)
  | _ => none
noncomputable def a_art : ef := fun _ _ _ _ _ S N T => match S with
  | [.inr (.inl r)] => some (.inl (some (.inr (.inl r))), N, T)
  | _ => none
noncomputable def a_ret : ef := fun _ _ _ _ _ S N T => match S with
  | [] => some (.inl none, N, T)
  | _ => none
noncomputable def a_pf (d a b np : Nat) : ef := match d with
  | 0 => a_pfi a b np
  | 10 => a_pfi a b np
  | 2 => a_pfz a b np
  | 1 => a_pfr a b np
  | 11 => a_pfr a b np
  | _ => a_no
noncomputable def armP (bz : Bool) (e : en) : ef × Unit :=
  match e with
  | (i, np, a, b, _, d, tl) => match i with
    | .iconst n => (bif cnc n then a_con (.inl n) np else a_no, ())
    | .bipush n => (bif cnc n then a_con (.inl n) np else a_no, ())
    | .sipush n => (bif cnc n then a_con (.inl n) np else a_no, ())
    | .ldc _ => (bif cnc (Int.ofNat a) then a_con (.inl (Int.ofNat a)) np else a_no, ())
    | .lconst _ => (a_con (.inr (.inr (Int64.ofNat a))) np, ())
    | .ldc2_w _ => (a_con (.inr (.inr (Int64.ofNat a))) np, ())
    | .aconst_null => (a_con (.inr (.inl none)) np, ())
    | .iload k => (a_ild k np, ())
    | .iload_n k => (a_ild k.val np, ())
    | .aload k => (a_ald k np, ())
    | .aload_n k => (a_ald k.val np, ())
    | .lload_n k => (a_lld k.val np, ())
    | .istore k => (a_ist k np, ())
    | .istore_n k => (a_ist k.val np, ())
    | .astore k => (a_ast k np, ())
    | .astore_n k => (a_ast k.val np, ())
    | .iinc k n => (a_inc k n np, ())
    | .dup => (a_dup np, ())
    | .dup2 => (a_dp2 np, ())
    | .pop => (a_pop np, ())
    | .iadd => (a_bin (fun x y => x + y) np, ())
    | .isub => (a_bin (fun x y => x - y) np, ())
    | .imul => (a_bin (fun x y => x * y) np, ())
    | .idiv => (a_div (fun x y => x.tdiv y) np, ())
    | .irem => (a_div (fun x y => x.tmod y) np, ())
    | .iand => (a_and np, ())
    | .ior => (a_bin (b32 (fun p q => p ||| q)) np, ())
    | .ixor => (a_bin (b32 (fun p q => p ^^^ q)) np, ())
    | .ishl => (a_bin (b32 (fun p q => p <<< (q &&& 31))) np, ())
    | .ishr => (a_bin (b32 (fun p q => p >>> (q &&& 31))) np, ())
    | .iushr => (a_bin (b32 (fun p q => (p.toUInt32 >>> (q.toUInt32 &&& Int32.toUInt32 31)).toInt32)) np, ())
    | .land => (a_lbn (fun x y => x &&& y) np, ())
    | .lor => (a_lbn (fun x y => x ||| y) np, ())
    | .lxor => (a_lbn (fun x y => x ^^^ y) np, ())
    | .lshl => (a_lsh (fun y x => x <<< ((Int32.ofInt y).toInt64 &&& 63)) np, ())
    | .lushr => (a_lsh (fun y x => (x.toUInt64 >>> ((Int32.ofInt y).toInt64.toUInt64 &&& Int64.toUInt64 63)).toInt64) np, ())
    | .lcmp => (a_lcm np, ())
    | .i2l => (a_i2l np, ())
    | .l2i => (a_l2i np, ())
    | .i2b => (a_i2b np, ())
    | .goto _ => (a_jmp a, ())
    | .if_icmp cd _ => (a_icm cd a np, ())
    | .ifCond cd _ => (a_icn cd a np, ())
    | .ifnull _ => (a_nul a np, ())
    | .ifnonnull _ => (a_nul np a, ())
    | .tableswitch _ lo hi _ => (bif ieq (lo + Int.ofNat tl.length) (hi + 1) then a_tsw a lo hi tl else a_no, ())
    | .lookupswitch _ ps => (a_lsw a ps.toList tl, ())
    | .getfield _ => (bif Nat.ble b 8388607 then (bif Nat.beq d 1 || Nat.beq d 11 then a_gfr a b np else a_gfi a b np) else a_no, ())
    | .putfield _ => (bif Nat.ble b 8388607 then a_pf d a b np else a_no, ())
    | .iaload => (a_ial np, ())
    | .iastore => (a_ias np, ())
    | .baload => (a_bal np, ())
    | .bastore => (a_bas np, ())
    | .laload => (a_lal np, ())
    | .lastore => (a_las np, ())
    | .aaload => (a_aal np, ())
    | .arraylength => (a_len np, ())
    | .new _ => (bif Nat.ble 100 a then a_thr (a - 100) else a_new a np, ())
    | .newarray _ => (bif Nat.ble a 2 then a_nar a np else a_no, ())
    | .multianewarray _ _ => (a_mna np, ())
    | .invokevirtual _ => (a_inv a b d np, ())
    | .invokespecial _ => (bif Nat.beq a 1003 then a_nat a np else a_inv a b 101 np, ())
    | .invokestatic _ => (bif Nat.ble 1000 a then a_nat a np else a_inv a b 100 np, ())
    | .ireturn => (a_irt bz, ())
    | .areturn => (a_art, ())
    | .return_ => (a_ret, ())
    | _ => (a_no, ())
/-- what stands at a place of a method: closed, so that the kernel finds it once -/
noncomputable def dcd (y pc : Nat) : ef × Unit := bif Nat.ble (mt y).2.1 pc then (a_no, ()) else armP (mt y).2.2.2.1 ((mt y).1 pc)
noncomputable abbrev stt : Type := Nat → Nat → List av → Nat → Tr 32 → Option rs
/-- behind a call: on (nx), or to the handler -/
noncomputable def aft (nx : nt) (y pc np : Nat) (L : List (Option av)) (S' : List av) (o : Option av ⊕ Nat) (N' : Nat) (T' : Tr 32) : Option rs := match o with
  | .inl none => nx np L S' N' T'
  | .inl (some v) => nx np L (v :: S') N' T'
  | .inr x => (match fnd (mt y).2.2.2.2 pc x with
    | some t => nx t (List.replicate (mt y).2.2.1 none) [] N' T'
    | none => some (.inr x, N', T'))
noncomputable def afC (cl : stt) (nx : nt) (d' y y' pc np : Nat) (L : List (Option av)) (N : Nat) (T : Tr 32) (as S' : List av) : Option rs := match cl d' y' as N T with
  | none => none
  | some (o, N', T') => aft nx y pc np L S' o N' T'
/-- a call: whoever is called (cl), then on -/
noncomputable def cal (E : eE) (cl : stt) (nx : nt) (d y : Nat) : ivt := fun y' n rc pc np L S N T => match d with
  | 0 => none
  | d' + 1 => match splB n S [] with
    | none => none
    | some (as, S') => bif Nat.ble (wsum S') 8 && rcv E.1 rc as N && Nat.ble (wsum as) (mt y').2.2.1 then afC cl nx d' y y' pc np L N T as S' else none
noncomputable def clv (stb : stt) (ih : Nat → Nat → nt) : stt := fun d' y' as N T => match stb d' y' as N T with
  | some r => some r
  | none => ih d' y' 0 (ent as (mt y').2.2.1) [] N T
/-- runs: fuel, and how deep calls may go; some calls are answered by stubs (stb) -/
noncomputable def ev (E : eE) (stb : stt) (f : Nat) : Nat → Nat → nt :=
  Nat.rec (motive := fun _ => Nat → Nat → nt) (fun _ _ _ _ _ _ _ => none)
    (fun _ ih d y pc L S N T => (dcd y pc).1 E (ih d y) (cal E (clv stb ih) (ih d y) d y) pc L S N T) f
noncomputable def no_st : stt := fun _ _ _ _ _ => none
/-- the law: calls in one mode while fewer than 233 cells are there, in another afterwards -/
noncomputable def evl (E0 E1 : eE) (st0 st1 : stt) (g d : Nat) (f : Nat) : nt :=
  Nat.rec (motive := fun _ => nt) (fun _ _ _ _ _ => none)
    (fun _ ih pc L S N T => (dcd 248 pc).1 E0 ih (cal E0 (fun d' y' as N T => bif Nat.ble 233 N then clv st1 (ev E1 st1 g) d' y' as N T else clv st0 (ev E0 st0 g) d' y' as N T) ih d 248) pc L S N T) f
/-- calls of these methods are run without script and tokens: the kernel finds such a run once for many scripts -/
noncomputable def slE (md : Nat) : eE := (md, 999, fun _ => 0, fun _ => (1, 0), 0)
noncomputable def slS (md g : Nat) (sel : Nat → Bool) : stt := fun d y as N T => bif sel y then ev (slE md) no_st g d y 0 (ent as (mt y).2.2.1) [] N T else none
