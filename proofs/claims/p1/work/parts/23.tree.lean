/-! THE HEAP OF A RUN AS A TREE that the kernel can compute with: a number at each place below 2^n; none: all are 0 -/
def Tr (n : Nat) : Type := Nat.rec (motive := fun _ => Type) Int (fun _ T => Option (T × T)) n
noncomputable def t0 (n : Nat) : Tr n := Nat.rec (motive := fun n => Tr n) (0 : Int) (fun n _ => (none : Option (Tr n × Tr n))) n
noncomputable def tg (n : Nat) : Tr n → Nat → Int := Nat.rec (motive := fun n => Tr n → Nat → Int) (fun t _ => t)
  (fun n ih t k => match (t : Option (Tr n × Tr n)) with
    | none => 0
    | some (a, b) => bif Nat.ble (2 ^ n) k then ih b (k - 2 ^ n) else ih a k) n
noncomputable def ts (n : Nat) : Tr n → Nat → Int → Tr n := Nat.rec (motive := fun n => Tr n → Nat → Int → Tr n) (fun _ _ v => v)
  (fun n ih t k v => match (t : Option (Tr n × Tr n)) with
    | none => bif Nat.ble (2 ^ n) k then (some (t0 n, ih (t0 n) (k - 2 ^ n) v) : Option (Tr n × Tr n)) else some (ih (t0 n) k v, t0 n)
    | some (a, b) => bif Nat.ble (2 ^ n) k then (some (a, ih b (k - 2 ^ n) v) : Option (Tr n × Tr n)) else some (ih a k v, b)) n
theorem ble_f {a b : Nat} (h : ¬ a ≤ b) : Nat.ble a b = false := (Bool.not_eq_true _).mp (fun z => h (Nat.le_of_ble_eq_true z))
theorem tg_some {n : Nat} (a b : Tr n) (k : Nat) : tg (n + 1) (some (a, b) : Option (Tr n × Tr n)) k = (bif Nat.ble (2 ^ n) k then tg n b (k - 2 ^ n) else tg n a k) := rfl
theorem ts_none {n : Nat} (k : Nat) (v : Int) : ts (n + 1) (none : Option (Tr n × Tr n)) k v = (bif Nat.ble (2 ^ n) k then (some (t0 n, ts n (t0 n) (k - 2 ^ n) v) : Option (Tr n × Tr n)) else some (ts n (t0 n) k v, t0 n)) := rfl
theorem ts_some {n : Nat} (a b : Tr n) (k : Nat) (v : Int) : ts (n + 1) (some (a, b) : Option (Tr n × Tr n)) k v = (bif Nat.ble (2 ^ n) k then (some (a, ts n b (k - 2 ^ n) v) : Option (Tr n × Tr n)) else some (ts n a k v, b)) := rfl
theorem tg_t0 (n k : Nat) : tg n (t0 n) k = 0 := by
  cases n <;> rfl
theorem tg_ts (n : Nat) : ∀ (t : Tr n) (k j : Nat) (v : Int), k < 2 ^ n → j < 2 ^ n → tg n (ts n t k v) j = if j = k then v else tg n t j := by
  induction n with
  | zero =>
    intro t k j v hk hj
    have : j = k := by
      rw [Nat.pow_zero] at hk hj
      omega
    rw [if_pos this]; rfl
  | succ n ih =>
    intro t k j v hk hj
    have hp : 2 ^ (n + 1) = 2 ^ n + 2 ^ n := by rw [Nat.pow_succ]; omega
    have key : ∀ a b : Tr n, tg (n + 1) (ts (n + 1) (some (a, b) : Option (Tr n × Tr n)) k v) j = if j = k then v else tg (n + 1) (some (a, b) : Option (Tr n × Tr n)) j := by
      intro a b
      rw [ts_some]
      by_cases h1 : 2 ^ n ≤ k
      · rw [Nat.ble_eq_true_of_le h1, cond_true, tg_some, tg_some]
        by_cases h2 : 2 ^ n ≤ j
        · rw [Nat.ble_eq_true_of_le h2, cond_true, cond_true, ih _ _ _ _ (by omega) (by omega)]
          by_cases h3 : j = k
          · rw [if_pos h3, if_pos (by omega)]
          · rw [if_neg h3, if_neg (by omega)]
        · rw [ble_f h2, cond_false, cond_false, if_neg (by omega)]
      · rw [ble_f h1, cond_false, tg_some, tg_some]
        by_cases h2 : 2 ^ n ≤ j
        · rw [Nat.ble_eq_true_of_le h2, cond_true, cond_true, if_neg (by omega)]
        · rw [ble_f h2, cond_false, cond_false, ih _ _ _ _ (by omega) (by omega)]
    cases (t : Option (Tr n × Tr n)) with
    | none =>
      have h0 := key (t0 n) (t0 n)
      have e1 : ts (n + 1) (none : Option (Tr n × Tr n)) k v = ts (n + 1) (some (t0 n, t0 n) : Option (Tr n × Tr n)) k v := by rw [ts_none, ts_some]
      have e2 : tg (n + 1) (some (t0 n, t0 n) : Option (Tr n × Tr n)) j = tg (n + 1) (none : Option (Tr n × Tr n)) j := by
        rw [tg_some, tg_t0, tg_t0]
        cases Nat.ble (2 ^ n) j <;> rfl
      rw [e2] at h0
      exact (congrArg (fun x => tg (n + 1) x j) e1).trans h0
    | some p => exact key p.1 p.2
