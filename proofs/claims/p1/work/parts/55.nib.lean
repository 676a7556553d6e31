/-! four bits of a long, four bits of an int: what is written is read, what is beside it stays -/
theorem nb_15 {w : Nat} (k : Nat) : (BitVec.ofNat w 15).getLsbD k = (decide (k < w) && decide (k < 4)) := by
  rw [BitVec.getLsbD_ofNat]
  have e : Nat.testBit 15 k = decide (k < 4) := Nat.testBit_two_pow_sub_one 4 k
  rw [e]
theorem nb_p {w : Nat} {p : BitVec w} (hp : p.toNat < 16) {k : Nat} (hk : 4 ≤ k) : p.getLsbD k = false := by
  unfold BitVec.getLsbD
  exact Nat.testBit_lt_two_pow (Nat.lt_of_lt_of_le hp (Nat.pow_le_pow_right (by decide) hk : 2 ^ 4 ≤ 2 ^ k))
def nbW {w : Nat} (o p : BitVec w) (s : Nat) : BitVec w := (o &&& ((BitVec.ofNat w 15 <<< (4 * s)) ^^^ BitVec.allOnes w)) ||| (p <<< (4 * s))
theorem nb_bit {w : Nat} {o p : BitVec w} {s t i : Nat} (ht : 4 * t + 4 ≤ w) (hp : p.toNat < 16) (hi : i < 4) : (nbW o p s).getLsbD (4 * t + i) = if s = t then p.getLsbD i else o.getLsbD (4 * t + i) := by
  unfold nbW
  rw [BitVec.getLsbD_or, BitVec.getLsbD_and, BitVec.getLsbD_xor, BitVec.getLsbD_shiftLeft, BitVec.getLsbD_shiftLeft, BitVec.getLsbD_allOnes, nb_15]
  have hw : decide (4 * t + i < w) = true := decide_eq_true (by omega)
  rw [hw]
  by_cases h1 : s = t
  · subst h1
    rw [if_pos rfl, Nat.add_sub_cancel_left, decide_eq_false (by omega : ¬ 4 * s + i < 4 * s), decide_eq_true hi, decide_eq_true (by omega : i < w)]
    cases o.getLsbD (4 * s + i) <;> cases p.getLsbD i <;> rfl
  · rw [if_neg h1]
    by_cases h2 : 4 * t + i < 4 * s
    · rw [decide_eq_true h2]
      cases o.getLsbD (4 * t + i) <;> rfl
    · rw [decide_eq_false h2, nb_p hp (by omega : 4 ≤ 4 * t + i - 4 * s), decide_eq_false (by omega : ¬ 4 * t + i - 4 * s < 4)]
      cases o.getLsbD (4 * t + i) <;> cases decide (4 * t + i - 4 * s < w) <;> rfl
theorem nb_ru {w : Nat} {o p : BitVec w} {s t : Nat} (ht : 4 * t + 4 ≤ w) (hp : p.toNat < 16) : (nbW o p s >>> (4 * t)) &&& BitVec.ofNat w 15 = if s = t then p else (o >>> (4 * t)) &&& BitVec.ofNat w 15 := by
  apply BitVec.eq_of_getLsbD_eq
  intro i hi
  by_cases h4 : i < 4
  · rw [BitVec.getLsbD_and, BitVec.getLsbD_ushiftRight, nb_bit ht hp h4, nb_15, decide_eq_true h4, decide_eq_true hi]
    by_cases e : s = t
    · rw [if_pos e, if_pos e, Bool.and_self, Bool.and_true]
    · rw [if_neg e, if_neg e, BitVec.getLsbD_and, BitVec.getLsbD_ushiftRight, nb_15, decide_eq_true h4, decide_eq_true hi]
  · rw [BitVec.getLsbD_and, nb_15, decide_eq_false h4, Bool.and_false, Bool.and_false]
    by_cases e : s = t
    · rw [if_pos e, nb_p hp (by omega)]
    · rw [if_neg e, BitVec.getLsbD_and, nb_15, decide_eq_false h4, Bool.and_false, Bool.and_false]
theorem nb_rs {w : Nat} {o p : BitVec w} {s t : Nat} (ht : 4 * t + 4 ≤ w) (hp : p.toNat < 16) : (nbW o p s).sshiftRight (4 * t) &&& BitVec.ofNat w 15 = if s = t then p else o.sshiftRight (4 * t) &&& BitVec.ofNat w 15 := by
  apply BitVec.eq_of_getLsbD_eq
  intro i hi
  by_cases h4 : i < 4
  · rw [BitVec.getLsbD_and, BitVec.getLsbD_sshiftRight, if_pos (by omega : 4 * t + i < w), nb_bit ht hp h4, nb_15, decide_eq_true h4, decide_eq_true hi, decide_eq_false (by omega : ¬ w ≤ i)]
    by_cases e : s = t
    · rw [if_pos e, if_pos e]
      cases p.getLsbD i <;> rfl
    · rw [if_neg e, if_neg e, BitVec.getLsbD_and, BitVec.getLsbD_sshiftRight, if_pos (by omega : 4 * t + i < w), nb_15, decide_eq_true h4, decide_eq_true hi, decide_eq_false (by omega : ¬ w ≤ i)]
  · rw [BitVec.getLsbD_and, nb_15, decide_eq_false h4, Bool.and_false, Bool.and_false]
    by_cases e : s = t
    · rw [if_pos e, nb_p hp (by omega)]
    · rw [if_neg e, BitVec.getLsbD_and, nb_15, decide_eq_false h4, Bool.and_false, Bool.and_false]
theorem i64_16 {z : Int64} (h : z.toBitVec.toNat < 16) : z.toInt32.toInt = (z.toBitVec.toNat : Int) := by
  have e : Int64.ofNat z.toBitVec.toNat = z := Int64.toBitVec.inj (by rw [Int64.toBitVec_ofNat', BitVec.ofNat_toNat, BitVec.setWidth_eq])
  have d : ∀ k, k < 16 → (Int64.ofNat k).toInt32.toInt = (k : Int) := by decide +kernel
  have := d _ h
  rw [e] at this
  exact this
theorem i32_16 {z : Int32} (h : z.toBitVec.toNat < 16) : z.toInt = (z.toBitVec.toNat : Int) := by
  have e : Int32.ofNat z.toBitVec.toNat = z := Int32.toBitVec.inj (by rw [Int32.toBitVec_ofNat', BitVec.ofNat_toNat, BitVec.setWidth_eq])
  have d : ∀ k, k < 16 → (Int32.ofNat k).toInt = (k : Int) := by decide +kernel
  have := d _ h
  rw [e] at this
  exact this
theorem and15_lt {w : Nat} (x : BitVec w) (hw : 4 ≤ w) : (x &&& BitVec.ofNat w 15).toNat < 16 := by
  rw [BitVec.toNat_and, BitVec.toNat_ofNat]
  have : 15 % 2 ^ w = 15 := Nat.mod_eq_of_lt (Nat.lt_of_lt_of_le (by decide : 15 < 2 ^ 4) (Nat.pow_le_pow_right (by decide) hw))
  rw [this]
  exact Nat.lt_of_le_of_lt Nat.and_le_right (by decide)
/-- what pickAt reads -/
def pkR (w : Int64) (pl : Int) : Int := ((w.toUInt64 >>> ((Int32.ofInt (pl.tmod 16 * 4)).toInt64.toUInt64 &&& Int64.toUInt64 63)).toInt64 &&& Int64.ofNat 15).toInt32.toInt
theorem sh_u64 : ∀ s : Nat, s < 16 → (((Int32.ofInt ((s : Int) * 4)).toInt64.toUInt64 &&& Int64.toUInt64 63).toBitVec % 64).toNat = 4 * s := by decide +kernel
theorem sh_i64 : ∀ s : Nat, s < 16 → (((Int32.ofInt ((s : Int) * 4)).toInt64 &&& 63).toBitVec.smod 64).toNat = 4 * s := by decide +kernel
theorem sh_i32 : ∀ s : Nat, s < 8 → ((Int32.ofInt (4 * (s : Int)) &&& 31).toBitVec.smod 32).toNat = 4 * s := by decide +kernel
theorem pk_nat : ∀ k : Nat, k < 16 → (Int32.ofInt (k : Int)).toInt64.toBitVec.toNat = k ∧ (Int32.ofInt (k : Int)).toBitVec.toNat = k := by decide +kernel
theorem pkR_eq {w : Int64} {pl : Int} {s : Nat} (hs : s < 16) (e : pl.tmod 16 = (s : Int)) : pkR w pl = (((w.toBitVec >>> (4 * s)) &&& BitVec.ofNat 64 15).toNat : Int) := by
  have key : ((w.toUInt64 >>> ((Int32.ofInt ((s : Int) * 4)).toInt64.toUInt64 &&& Int64.toUInt64 63)).toInt64 &&& Int64.ofNat 15).toBitVec = (w.toBitVec >>> (4 * s)) &&& BitVec.ofNat 64 15 := by
    rw [Int64.toBitVec_and, UInt64.toBitVec_toInt64, UInt64.toBitVec_shiftRight, BitVec.ushiftRight_eq', sh_u64 s hs]
    rfl
  unfold pkR
  rw [e, i64_16 (by rw [key]; exact and15_lt _ (by decide)), key]
theorem pkB_eq {o : Int64} {pl pick : Int} {s : Nat} (hs : s < 16) (e : pl.tmod 16 = (s : Int)) : (pkB o pl pick).toBitVec = nbW o.toBitVec (Int32.ofInt pick).toInt64.toBitVec s := by
  unfold pkB nbW
  rw [e, Int64.toBitVec_or, Int64.toBitVec_and, Int64.toBitVec_xor, Int64.toBitVec_shiftLeft, Int64.toBitVec_shiftLeft, BitVec.shiftLeft_eq', BitVec.shiftLeft_eq', sh_i64 s hs]
  rfl
theorem pk_rw {o : Int64} {pl pl' pick : Int} (h : 0 ≤ pl) (h' : 0 ≤ pl') (hp : 0 ≤ pick ∧ pick ≤ 15) : pkR (pkB o pl pick) pl' = if pl.tmod 16 = pl'.tmod 16 then pick else pkR o pl' := by
  have b : 0 ≤ pl.tmod 16 ∧ pl.tmod 16 < 16 := by rw [Int.tmod_eq_emod_of_nonneg h]; omega
  have b' : 0 ≤ pl'.tmod 16 ∧ pl'.tmod 16 < 16 := by rw [Int.tmod_eq_emod_of_nonneg h']; omega
  obtain ⟨s, es⟩ := Int.eq_ofNat_of_zero_le b.1
  obtain ⟨t, et⟩ := Int.eq_ofNat_of_zero_le b'.1
  obtain ⟨k, ek⟩ := Int.eq_ofNat_of_zero_le hp.1
  have hk := (pk_nat k (by omega)).1
  rw [pkR_eq (s := t) (by omega) et, pkR_eq (s := t) (by omega) et, pkB_eq (s := s) (by omega) es, ek, nb_ru (by omega) (by rw [hk]; omega)]
  by_cases c : s = t
  · rw [if_pos c, if_pos (by omega), hk]
  · rw [if_neg c, if_neg (by omega)]
/-- what followsBest reads -/
def rdB (old c : Int) : Int := b32 (fun p q => p &&& q) (b32 (fun p q => p >>> (q &&& 31)) old (4 * c.tmod 8)) 15
theorem rdB_eq {o c : Int} {s : Nat} (hs : s < 8) (e : c.tmod 8 = (s : Int)) : rdB o c = (((Int32.ofInt o).toBitVec.sshiftRight (4 * s) &&& BitVec.ofNat 32 15).toNat : Int) := by
  have key : (Int32.ofInt o >>> (Int32.ofInt (4 * (s : Int)) &&& 31) &&& Int32.ofInt 15).toBitVec = (Int32.ofInt o).toBitVec.sshiftRight (4 * s) &&& BitVec.ofNat 32 15 := by
    rw [Int32.toBitVec_and, Int32.toBitVec_shiftRight]
    unfold BitVec.sshiftRight'
    rw [sh_i32 s hs]
    rfl
  unfold rdB b32
  rw [Int32.ofInt_toInt, e, i32_16 (by rw [key]; exact and15_lt _ (by decide)), key]
theorem chB_eq {o c which : Int} {s : Nat} (hs : s < 8) (e : c.tmod 8 = (s : Int)) : (Int32.ofInt (chB o c which)).toBitVec = nbW (Int32.ofInt o).toBitVec (Int32.ofInt which).toBitVec s := by
  unfold chB b32 nbW
  rw [Int32.ofInt_toInt, Int32.ofInt_toInt, Int32.ofInt_toInt, Int32.ofInt_toInt, Int32.ofInt_toInt, e, Int32.toBitVec_or, Int32.toBitVec_and, Int32.toBitVec_xor, Int32.toBitVec_shiftLeft, Int32.toBitVec_shiftLeft, BitVec.shiftLeft_eq', BitVec.shiftLeft_eq', sh_i32 s hs]
  rfl
theorem ch_rw {o c c' which : Int} (h : 0 ≤ c) (h' : 0 ≤ c') (hp : 0 ≤ which ∧ which ≤ 15) : rdB (chB o c which) c' = if c.tmod 8 = c'.tmod 8 then which else rdB o c' := by
  have b : 0 ≤ c.tmod 8 ∧ c.tmod 8 < 8 := by rw [Int.tmod_eq_emod_of_nonneg h]; omega
  have b' : 0 ≤ c'.tmod 8 ∧ c'.tmod 8 < 8 := by rw [Int.tmod_eq_emod_of_nonneg h']; omega
  obtain ⟨s, es⟩ := Int.eq_ofNat_of_zero_le b.1
  obtain ⟨t, et⟩ := Int.eq_ofNat_of_zero_le b'.1
  obtain ⟨k, ek⟩ := Int.eq_ofNat_of_zero_le hp.1
  have hk := (pk_nat k (by omega)).2
  rw [rdB_eq (s := t) (by omega) et, rdB_eq (s := t) (by omega) et, chB_eq (s := s) (by omega) es, ek, nb_rs (by omega) (by rw [hk]; omega)]
  by_cases cc : s = t
  · rw [if_pos cc, if_pos (by omega), hk]
  · rw [if_neg cc, if_neg (by omega)]
theorem pkR_b (w : Int64) {pl : Int} (h : 0 ≤ pl) : 0 ≤ pkR w pl ∧ pkR w pl ≤ 15 := by
  have b : 0 ≤ pl.tmod 16 ∧ pl.tmod 16 < 16 := by rw [Int.tmod_eq_emod_of_nonneg h]; omega
  obtain ⟨s, es⟩ := Int.eq_ofNat_of_zero_le b.1
  rw [pkR_eq (s := s) (by omega) es]
  have := and15_lt (w.toBitVec >>> (4 * s)) (by decide)
  omega
