/-! Integer.bitCount of 15 -/
def bc1 (x : Int) : Int := x - b32 (fun p q => p &&& q) (b32 (fun p q => (p.toUInt32 >>> (q.toUInt32 &&& Int32.toUInt32 31)).toInt32) (x) 1) ((1431655765 : Nat) : Int)
def bc2 (x : Int) : Int := b32 (fun p q => p &&& q) (x) ((858993459 : Nat) : Int) + b32 (fun p q => p &&& q) (b32 (fun p q => (p.toUInt32 >>> (q.toUInt32 &&& Int32.toUInt32 31)).toInt32) (x) 2) ((858993459 : Nat) : Int)
def bc3 (x : Int) : Int := b32 (fun p q => p &&& q) (x + b32 (fun p q => (p.toUInt32 >>> (q.toUInt32 &&& Int32.toUInt32 31)).toInt32) (x) 4) ((252645135 : Nat) : Int)
def bc4 (x : Int) : Int := x + b32 (fun p q => (p.toUInt32 >>> (q.toUInt32 &&& Int32.toUInt32 31)).toInt32) (x) 8
def bc5 (x : Int) : Int := b32 (fun p q => p &&& q) (x + b32 (fun p q => (p.toUInt32 >>> (q.toUInt32 &&& Int32.toUInt32 31)).toInt32) (x) 16) 63
section Bit
variable {scL : Nat} {scX : Nat → Int} {d N : Nat} {fi : tF} {fr : tR} {ai : tF} {al : tL} {P : ot}
theorem c_bitx {x : Int} (hx : x = 15) (hP : P (.inl (some (.inl 4))) fi fr ai al) : Call 1 scL scX (d + 1) 214 [.inl x] N fi fr ai al N P := by
  have e : bc5 (bc4 (bc3 (bc2 (bc1 x)))) = 4 := by rw [hx]; decide +kernel
  rw [← e] at hP
  refine ⟨⟨Nat.le_refl _, rfl⟩, rc_go [10] 60 ?_⟩
  show Rc 1 (Call 1 scL scX d) (mt 214) P N scL scX 10 [some (.inl (bc1 x))] [] N fi fr ai al
  generalize bc1 x = x at hP ⊢
  refine rc_go [24] 60 ?_
  show Rc 1 (Call 1 scL scX d) (mt 214) P N scL scX 24 [some (.inl (bc2 x))] [] N fi fr ai al
  generalize bc2 x = x at hP ⊢
  refine rc_go [34] 60 ?_
  show Rc 1 (Call 1 scL scX d) (mt 214) P N scL scX 34 [some (.inl (bc3 x))] [] N fi fr ai al
  generalize bc3 x = x at hP ⊢
  refine rc_go [41] 60 ?_
  show Rc 1 (Call 1 scL scX d) (mt 214) P N scL scX 41 [some (.inl (bc4 x))] [] N fi fr ai al
  generalize bc4 x = x at hP ⊢
  refine rc_go [] 60 ?_
  exact And.intro rfl hP
end Bit
theorem bitOk_15 : bitOk := by
  intro scL scX d N fi fr ai al P hP
  exact c_bitx rfl hP
