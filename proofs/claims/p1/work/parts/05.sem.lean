/-! ===== THE PURE STEP: what an instruction does to a picture of the heap. Numbers are Ints (the machine's are their remainders); cells have numbers; -/
abbrev av : Type := Int ⊕ (Option Nat ⊕ Int64)
abbrev tF : Type := Nat → Nat → Int
abbrev tR : Type := Nat → Nat → Option Nat
abbrev tL : Type := Nat → Nat → Int64
/-- an instruction, the next pc, four numbers and a list beside it -/
abbrev en : Type := Instr × Nat × Nat × Nat × Nat × Nat × List Nat
abbrev kt : Type := Nat → List (Option av) → List av → Nat → tF → tR → tF → tL → Prop
abbrev ot : Type := (Option av ⊕ Nat) → tF → tR → tF → tL → Prop
abbrev ct : Type := Nat → List av → Nat → tF → tR → tF → tL → Nat → ot → Prop
abbrev xt : Type := Nat → Nat → Nat → tF → tR → tF → tL → Prop
def up2 {α : Type} (f : Nat → Nat → α) (o k : Nat) (v : α) : Nat → Nat → α := fun i j => bif Nat.beq i o && Nat.beq j k then v else f i j
def clr {α : Type} (f : Nat → Nat → α) (o : Nat) (v : α) : Nat → Nat → α := fun i j => bif Nat.beq i o then v else f i j
def clrR {α : Type} (f : Nat → Nat → α) (o n : Nat) (v : α) : Nat → Nat → α := fun i j => bif Nat.ble o i && Nat.ble i (o + n) then v else f i j
def cpR (f : tF) (a sp b dp n : Nat) : tF := fun i j => bif Nat.beq i b && (Nat.ble dp j && Nat.ble (j + 1) (dp + n)) then f a (sp + (j - dp)) else f i j
def inb (j : Int) (n : Nat) : Prop := 0 ≤ j ∧ j < (n : Int)
def rg (x : Int) : Prop := -2147483648 ≤ x ∧ x ≤ 2147483647
/-- is the cell there: from mode 10 on it is looked at; below it the 233 cells of both objects are known to be there -/
def isL (md o N : Nat) : Bool := bif Nat.ble 10 md then Nat.ble (o + 1) N else bif Nat.ble 233 o then Nat.ble (o + 1) N else true
def isK (md o k N : Nat) : Bool := isL md o N && Nat.beq (shp md o).1 k
def isAr (md o N : Nat) : Bool := isL md o N && Nat.ble (shp md o).1 3
def gl : List (Option av) → Nat → Option av
  | [], _ => none
  | a :: _, 0 => a
  | _ :: t, n + 1 => gl t n
/-- a value of one slot is laid at a place; a long ahead of it is gone then -/
def sl : List (Option av) → Nat → av → List (Option av)
  | [], _, _ => []
  | _ :: t, 0, v => some v :: t
  | some (.inr (.inr _)) :: _ :: t, 1, v => none :: some v :: t
  | a :: t, n + 1, v => a :: sl t n v
def c1 : av → Bool
  | .inr (.inr _) => false
  | _ => true
def wsum : List av → Nat
  | [] => 0
  | .inr (.inr _) :: t => 2 + wsum t
  | _ :: t => 1 + wsum t
def spl : Nat → List av → List av → (List av → List av → Prop) → Prop
  | 0, S, acc, k => k acc S
  | _ + 1, [], _, _ => False
  | n + 1, v :: S, acc, k => spl n S (v :: acc) k
def b32 (f : Int32 → Int32 → Int32) (x y : Int) : Int := (f (Int32.ofInt x) (Int32.ofInt y)).toInt
def byt (x : Int) : Int := ((Int32.ofInt x).toInt8.toInt32).toInt
def icm (c : ClassFile.Cond) (x y : Int) : Prop := match c with
  | .eq => x = y
  | .ne => x ≠ y
  | .lt => x < y
  | .ge => y ≤ x
  | .gt => y < x
  | .le => x ≤ y
/-- both roads of a test; a number beyond 32 bits is not to be compared, but with itself -/
def brn (c : ClassFile.Cond) (x y : Int) (A B : Prop) : Prop := match c with
  | .eq => (x = y → A) ∧ (x ≠ y → rg x ∧ rg y ∧ B)
  | .ne => (x ≠ y → rg x ∧ rg y ∧ A) ∧ (x = y → B)
  | .lt => (rg x ∧ rg y) ∧ (x < y → A) ∧ (¬ x < y → B)
  | .ge => (rg x ∧ rg y) ∧ (y ≤ x → A) ∧ (¬ y ≤ x → B)
  | .gt => (rg x ∧ rg y) ∧ (y < x → A) ∧ (¬ y < x → B)
  | .le => (rg x ∧ rg y) ∧ (x ≤ y → A) ∧ (¬ x ≤ y → B)
def tsw (f : Nat → Prop) (z : Int) : Int → List Nat → Prop
  | _, [] => True
  | k, t :: ts => (z = k → f t) ∧ tsw f z (k + 1) ts
def lsw (f : Nat → Prop) (z : Int) (dflt : Nat) : List (Int × Int) → List Nat → Prop
  | p :: ps, t :: ts => (z = p.1 → f t) ∧ (z ≠ p.1 → lsw f z dflt ps ts)
  | _, _ => f dflt
def gridok (md N n k : Nat) : Bool := (List.range n).all fun j => Nat.beq (shp md (N + 1 + j)).1 0 && Nat.beq (shp md (N + 1 + j)).2 k
def fld (d : Nat) (fi : tF) (fr : tR) (o k : Nat) : av := match d with
  | 1 => .inr (.inl (fr o k))
  | 11 => .inr (.inl (fr o k))
  | _ => .inl (fi o k)
section Step
variable (md : Nat) (K : ct) (ex : xt) (P : ot) (Nf : Nat) (bz : Bool) (scL : Nat) (scX : Nat → Int) (nx : kt)
/-- whom a call is of: an object of a class (0 to 9), nobody (100), a thing just made (101) -/
def rcv (rc : Nat) (as : List av) (N : Nat) : Bool := match as with
  | .inr (.inl (some o)) :: _ => bif Nat.ble 100 rc then true else isK md o (10 + rc) N
  | _ => Nat.beq rc 100
/-- a call of y with n arguments -/
def inv (y n rc : Nat) (pc np : Nat) (L : List (Option av)) (S : List av) (N : Nat) (fi : tF) (fr : tR) (ai : tF) (al : tL) : Prop :=
  spl n S [] fun as S' => (match Nat.ble (wsum S') 8 && rcv md rc as N with
    | true => ∃ N', (N ≤ N' ∧ N' ≤ Nf) ∧ K y as N fi fr ai al N' (fun o fi' fr' ai' al' => match o with
      | .inl none => nx np L S' N' fi' fr' ai' al'
      | .inl (some v) => nx np L (v :: S') N' fi' fr' ai' al'
      | .inr x => ex pc x N' fi' fr' ai' al')
    | false => False)
/-- members of the JDK that are one step here: 1000 Math.min, 1001 Math.max, 1002 System.arraycopy of ints, 1003 Object() -/
def nat4 (y np : Nat) (L : List (Option av)) (S : List av) (N : Nat) (fi : tF) (fr : tR) (ai : tF) (al : tL) : Prop := match y, S with
  | 1000, .inl w :: .inl z :: S' => match Nat.ble (wsum S') 8 with
    | true => (rg z ∧ rg w) ∧ nx np L (.inl (if z < w then z else w) :: S') N fi fr ai al
    | false => False
  | 1001, .inl w :: .inl z :: S' => match Nat.ble (wsum S') 8 with
    | true => (rg z ∧ rg w) ∧ nx np L (.inl (if z < w then w else z) :: S') N fi fr ai al
    | false => False
  | 1002, .inl n :: .inl dp :: .inr (.inl (some b)) :: .inl sp :: .inr (.inl (some a)) :: S' => match isK md a 0 N && isK md b 0 N && Nat.ble (wsum S') 8 with
    | true => (0 ≤ n ∧ 0 ≤ sp ∧ 0 ≤ dp ∧ sp + n ≤ ((shp md a).2 : Int) ∧ dp + n ≤ ((shp md b).2 : Int)) ∧ nx np L S' N fi fr (cpR ai a sp.toNat b dp.toNat n.toNat) al
    | false => False
  | 1003, .inr (.inl (some _)) :: S' => match Nat.ble (wsum S') 8 with
    | true => nx np L S' N fi fr ai al
    | false => False
  | _, _ => False
def st (e : en) (pc : Nat) (L : List (Option av)) (S : List av) (N : Nat) (fi : tF) (fr : tR) (ai : tF) (al : tL) : Prop :=
  match e with
  | (i, np, a, b, c, d, tl) => match i with
    | .iconst n => nx np L (.inl n :: S) N fi fr ai al
    | .bipush n => nx np L (.inl n :: S) N fi fr ai al
    | .sipush n => nx np L (.inl n :: S) N fi fr ai al
    | .ldc _ => nx np L (.inl (a : Int) :: S) N fi fr ai al
    | .ldc_w _ => nx np L (.inl (a : Int) :: S) N fi fr ai al
    | .lconst _ => nx np L (.inr (.inr (Int64.ofNat a)) :: S) N fi fr ai al
    | .ldc2_w _ => nx np L (.inr (.inr (Int64.ofNat a)) :: S) N fi fr ai al
    | .aconst_null => nx np L (.inr (.inl none) :: S) N fi fr ai al
    | .iload k => match gl L k with
      | some (.inl z) => nx np L (.inl z :: S) N fi fr ai al
      | _ => False
    | .iload_n k => match gl L k.val with
      | some (.inl z) => nx np L (.inl z :: S) N fi fr ai al
      | _ => False
    | .aload k => match gl L k with
      | some (.inr (.inl r)) => nx np L (.inr (.inl r) :: S) N fi fr ai al
      | _ => False
    | .aload_n k => match gl L k.val with
      | some (.inr (.inl r)) => nx np L (.inr (.inl r) :: S) N fi fr ai al
      | _ => False
    | .lload_n k => match gl L k.val with
      | some (.inr (.inr w)) => nx np L (.inr (.inr w) :: S) N fi fr ai al
      | _ => False
    | .istore k => match S with
      | .inl z :: S' => nx np (sl L k (.inl z)) S' N fi fr ai al
      | _ => False
    | .istore_n k => match S with
      | .inl z :: S' => nx np (sl L k.val (.inl z)) S' N fi fr ai al
      | _ => False
    | .astore k => match S with
      | .inr (.inl r) :: S' => nx np (sl L k (.inr (.inl r))) S' N fi fr ai al
      | _ => False
    | .astore_n k => match S with
      | .inr (.inl r) :: S' => nx np (sl L k.val (.inr (.inl r))) S' N fi fr ai al
      | _ => False
    | .iinc k n => match gl L k with
      | some (.inl z) => nx np (sl L k (.inl (z + n))) S N fi fr ai al
      | _ => False
    | .dup => match S with
      | v :: S' => (match c1 v with
        | true => nx np L (v :: v :: S') N fi fr ai al
        | false => False)
      | _ => False
    | .dup2 => match S with
      | v :: w :: S' => (match c1 v && c1 w with
        | true => nx np L (v :: w :: v :: w :: S') N fi fr ai al
        | false => False)
      | _ => False
    | .pop => match S with
      | v :: S' => (match c1 v with
        | true => nx np L S' N fi fr ai al
        | false => False)
      | _ => False
    | .iadd => match S with
      | .inl y :: .inl x :: S' => nx np L (.inl (x + y) :: S') N fi fr ai al
      | _ => False
    | .isub => match S with
      | .inl y :: .inl x :: S' => nx np L (.inl (x - y) :: S') N fi fr ai al
      | _ => False
    | .imul => match S with
      | .inl y :: .inl x :: S' => nx np L (.inl (x * y) :: S') N fi fr ai al
      | _ => False
    | .idiv => match S with
      | .inl y :: .inl x :: S' => (rg x ∧ rg y ∧ y ≠ 0) ∧ nx np L (.inl (x.tdiv y) :: S') N fi fr ai al
      | _ => False
    | .irem => match S with
      | .inl y :: .inl x :: S' => (rg x ∧ rg y ∧ y ≠ 0) ∧ nx np L (.inl (x.tmod y) :: S') N fi fr ai al
      | _ => False
    | .iand => match S with
      | .inl y :: .inl x :: S' => nx np L (.inl (b32 (fun p q => p &&& q) x y) :: S') N fi fr ai al
      | _ => False
    | .ior => match S with
      | .inl y :: .inl x :: S' => nx np L (.inl (b32 (fun p q => p ||| q) x y) :: S') N fi fr ai al
      | _ => False
    | .ixor => match S with
      | .inl y :: .inl x :: S' => nx np L (.inl (b32 (fun p q => p ^^^ q) x y) :: S') N fi fr ai al
      | _ => False
    | .ishl => match S with
      | .inl y :: .inl x :: S' => nx np L (.inl (b32 (fun p q => p <<< (q &&& 31)) x y) :: S') N fi fr ai al
      | _ => False
    | .ishr => match S with
      | .inl y :: .inl x :: S' => nx np L (.inl (b32 (fun p q => p >>> (q &&& 31)) x y) :: S') N fi fr ai al
      | _ => False
    | .iushr => match S with
      | .inl y :: .inl x :: S' => nx np L (.inl (b32 (fun p q => (p.toUInt32 >>> (q.toUInt32 &&& Int32.toUInt32 31)).toInt32) x y) :: S') N fi fr ai al
      | _ => False
    | .land => match S with
      | .inr (.inr y) :: .inr (.inr x) :: S' => nx np L (.inr (.inr (x &&& y)) :: S') N fi fr ai al
      | _ => False
    | .lor => match S with
      | .inr (.inr y) :: .inr (.inr x) :: S' => nx np L (.inr (.inr (x ||| y)) :: S') N fi fr ai al
      | _ => False
    | .lxor => match S with
      | .inr (.inr y) :: .inr (.inr x) :: S' => nx np L (.inr (.inr (x ^^^ y)) :: S') N fi fr ai al
      | _ => False
    | .lshl => match S with
      | .inl y :: .inr (.inr x) :: S' => nx np L (.inr (.inr (x <<< ((Int32.ofInt y).toInt64 &&& 63))) :: S') N fi fr ai al
      | _ => False
    | .lushr => match S with
      | .inl y :: .inr (.inr x) :: S' => nx np L (.inr (.inr ((x.toUInt64 >>> ((Int32.ofInt y).toInt64.toUInt64 &&& Int64.toUInt64 63)).toInt64)) :: S') N fi fr ai al
      | _ => False
    | .lcmp => match S with
      | .inr (.inr y) :: .inr (.inr x) :: S' => nx np L (.inl (lg_cmp x y).toInt :: S') N fi fr ai al
      | _ => False
    | .i2l => match S with
      | .inl x :: S' => nx np L (.inr (.inr (Int32.ofInt x).toInt64) :: S') N fi fr ai al
      | _ => False
    | .l2i => match S with
      | .inr (.inr x) :: S' => nx np L (.inl x.toInt32.toInt :: S') N fi fr ai al
      | _ => False
    | .i2b => match S with
      | .inl x :: S' => nx np L (.inl (byt x) :: S') N fi fr ai al
      | _ => False
    | .goto _ => nx a L S N fi fr ai al
    | .if_icmp cd _ => match S with
      | .inl y :: .inl x :: S' => brn cd x y (nx a L S' N fi fr ai al) (nx np L S' N fi fr ai al)
      | _ => False
    | .ifCond cd _ => match S with
      | .inl x :: S' => brn cd x 0 (nx a L S' N fi fr ai al) (nx np L S' N fi fr ai al)
      | _ => False
    | .ifnull _ => match S with
      | .inr (.inl r) :: S' => (r = none → nx a L S' N fi fr ai al) ∧ (r ≠ none → nx np L S' N fi fr ai al)
      | _ => False
    | .ifnonnull _ => match S with
      | .inr (.inl r) :: S' => (r ≠ none → nx a L S' N fi fr ai al) ∧ (r = none → nx np L S' N fi fr ai al)
      | _ => False
    | .tableswitch _ lo hi _ => match S with
      | .inl z :: S' => rg z ∧ ((z < lo ∨ hi < z) → nx a L S' N fi fr ai al) ∧ tsw (fun t => nx t L S' N fi fr ai al) z lo tl
      | _ => False
    | .lookupswitch _ ps => match S with
      | .inl z :: S' => rg z ∧ lsw (fun t => nx t L S' N fi fr ai al) z a ps.toList tl
      | _ => False
    | .getfield _ => match S with
      | .inr (.inl (some o)) :: S' => (match isK md o (10 + a) N with
        | true => nx np L (fld d fi fr o b :: S') N fi fr ai al
        | false => False)
      | _ => False
    | .putfield _ => match S with
      | .inl z :: .inr (.inl (some o)) :: S' => (match isK md o (10 + a) N with
        | true => (match d with
          | 0 => nx np L S' N (up2 fi o b z) fr ai al
          | 10 => nx np L S' N (up2 fi o b z) fr ai al
          | 2 => (z = 0 ∨ z = 1) ∧ nx np L S' N (up2 fi o b z) fr ai al
          | _ => False)
        | false => False)
      | .inr (.inl r) :: .inr (.inl (some o)) :: S' => (match isK md o (10 + a) N with
        | true => (match d with
          | 1 => nx np L S' N fi (up2 fr o b r) ai al
          | 11 => nx np L S' N fi (up2 fr o b r) ai al
          | _ => False)
        | false => False)
      | _ => False
    | .iaload => match S with
      | .inl j :: .inr (.inl (some o)) :: S' => (match Nat.beq o 999999 with
        | true => inb j scL ∧ nx np L (.inl (scX j.toNat) :: S') N fi fr ai al
        | false => (match isK md o 0 N with
          | true => inb j (shp md o).2 ∧ nx np L (.inl (ai o j.toNat) :: S') N fi fr ai al
          | false => False))
      | _ => False
    | .iastore => match S with
      | .inl z :: .inl j :: .inr (.inl (some o)) :: S' => (match isK md o 0 N with
        | true => inb j (shp md o).2 ∧ nx np L S' N fi fr (up2 ai o j.toNat z) al
        | false => False)
      | _ => False
    | .baload => match S with
      | .inl j :: .inr (.inl (some o)) :: S' => (match isK md o 1 N with
        | true => inb j (shp md o).2 ∧ nx np L (.inl (ai o j.toNat) :: S') N fi fr ai al
        | false => False)
      | _ => False
    | .bastore => match S with
      | .inl z :: .inl j :: .inr (.inl (some o)) :: S' => (match isK md o 1 N with
        | true => inb j (shp md o).2 ∧ nx np L S' N fi fr (up2 ai o j.toNat (byt z)) al
        | false => False)
      | _ => False
    | .laload => match S with
      | .inl j :: .inr (.inl (some o)) :: S' => (match isK md o 2 N with
        | true => inb j (shp md o).2 ∧ nx np L (.inr (.inr (al o j.toNat)) :: S') N fi fr ai al
        | false => False)
      | _ => False
    | .lastore => match S with
      | .inr (.inr w) :: .inl j :: .inr (.inl (some o)) :: S' => (match isK md o 2 N with
        | true => inb j (shp md o).2 ∧ nx np L S' N fi fr ai (up2 al o j.toNat w)
        | false => False)
      | _ => False
    | .aaload => match S with
      | .inl j :: .inr (.inl (some o)) :: S' => (match isK md o 3 N with
        | true => inb j (shp md o).2 ∧ nx np L (.inr (.inl (some (o + 1 + j.toNat))) :: S') N fi fr ai al
        | false => False)
      | _ => False
    | .arraylength => match S with
      | .inr (.inl (some o)) :: S' => (match Nat.beq o 999999 with
        | true => nx np L (.inl (scL : Int) :: S') N fi fr ai al
        | false => (match isAr md o N with
          | true => nx np L (.inl ((shp md o).2 : Int) :: S') N fi fr ai al
          | false => False))
      | _ => False
    | .new _ => match Nat.ble 100 a with
      | true => (match Nat.beq (shp md N).1 9 && Nat.ble (wsum S) 60 with
        | true => N + 1 = Nf ∧ P (.inr (a - 100)) fi fr ai al
        | false => False)
      | false => (match Nat.beq (shp md N).1 (10 + a) with
        | true => N + 1 ≤ Nf ∧ nx np L (.inr (.inl (some N)) :: S) (N + 1) (clr fi N 0) (clr fr N none) ai al
        | false => False)
    | .newarray _ => match S with
      | .inl z :: S' => (match Nat.beq (shp md N).1 a with
        | true => (z = ((shp md N).2 : Int) ∧ N + 1 ≤ Nf) ∧ nx np L (.inr (.inl (some N)) :: S') (N + 1) fi fr (clr ai N 0) (clr al N 0)
        | false => False)
      | _ => False
    | .multianewarray _ _ => match S with
      | .inl w :: .inl z :: S' => (match Nat.beq (shp md N).1 3 && gridok md N (shp md N).2 (shp md (N + 1)).2 with
        | true => (z = ((shp md N).2 : Int) ∧ w = ((shp md (N + 1)).2 : Int) ∧ N + 1 + (shp md N).2 ≤ Nf) ∧ nx np L (.inr (.inl (some N)) :: S') (N + 1 + (shp md N).2) fi fr (clrR ai N (shp md N).2 0) al
        | false => False)
      | _ => False
    | .invokevirtual _ => inv md K ex Nf nx a b d pc np L S N fi fr ai al
    | .invokespecial _ => match Nat.beq a 1003 with
      | true => nat4 md nx a np L S N fi fr ai al
      | false => inv md K ex Nf nx a b 101 pc np L S N fi fr ai al
    | .invokestatic _ => match Nat.ble 1000 a with
      | true => nat4 md nx a np L S N fi fr ai al
      | false => inv md K ex Nf nx a b 100 pc np L S N fi fr ai al
    | .ireturn => match S with
      | [.inl z] => (match bz with
        | true => (z = 0 ∨ z = 1) ∧ N = Nf ∧ P (.inl (some (.inl z))) fi fr ai al
        | false => N = Nf ∧ P (.inl (some (.inl z))) fi fr ai al)
      | _ => False
    | .areturn => match S with
      | [.inr (.inl r)] => N = Nf ∧ P (.inl (some (.inr (.inl r)))) fi fr ai al
      | _ => False
    | .return_ => match S with
      | [] => N = Nf ∧ P (.inl none) fi fr ai al
      | _ => False
    | _ => False
end Step
