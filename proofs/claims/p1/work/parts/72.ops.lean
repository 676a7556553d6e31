/-! the law's own steps around each heavy call (by gen72.py): what is left of a call is a run of the class's method and one of the reference's, with one answer -/
theorem lgc (w : Int64) : (lg_cmp w w).toInt = 0 := by
  unfold lg_cmp
  rw [if_neg (fun h => Int64.lt_irrefl h), if_pos rfl]
  rfl
section Wrap
variable {scL : Nat} {scX : Nat → Int} {d N : Nat} {fi : tF} {fr : tR} {ai : tF} {al : tL} {P : ot}
theorem c_thrown (hP : P (.inl (some (.inl (fi 54 0)))) fi (rF fr) ai al) : Call 1 scL scX (d + 1) 126 [.inr (.inl (some 54))] N fi (rF fr) ai al N P := by
  refine ⟨⟨Nat.le_refl _, rfl⟩, rc_go [] 10 ?_⟩
  exact And.intro rfl hP
theorem c_thrownA (hP : P (.inl (some (.inl (fi 54 0)))) fi fr ai al) : Call 1 scL scX (d + 1) 126 [.inr (.inl (some 54))] N fi fr ai al N P := by
  refine ⟨⟨Nat.le_refl _, rfl⟩, rc_go [] 10 ?_⟩
  exact And.intro rfl hP
theorem c_L231 {a b : Int} (hN : 233 ≤ N) (h : Call 1 scL scX d 79 [.inr (.inl (some 0)), .inl a, .inl b] 233 fi fr ai al N (fun o fi' fr' ai' al' => ∃ V, o = .inl (some (.inl V)) ∧ P (.inl (some (.inl 0))) fi' fr' ai' (up2 al' 232 0 (Int32.ofInt V).toInt64))) : Call 1 scL scX (d + 1) 231 [.inr (.inl (some 0)), .inl a, .inl b, .inr (.inl (some 232))] 233 fi fr ai al N P := by
  refine ⟨⟨hN, rfl⟩, rc_go [] 20 ?_⟩
  refine Exists.intro N (And.intro ⟨hN, Nat.le_refl _⟩ (Call_mono _ _ _ _ _ _ _ _ _ _ _ _ _ _ (fun o fi' fr' ai' al' hq => ?_) h))
  obtain ⟨V, rfl, hP⟩ := hq
  refine And.intro ⟨by decide, by decide⟩ ?_
  exact And.intro rfl hP
theorem c_L232 {a : Int} (hN : 233 ≤ N) (h : Call 1 scL scX d 81 [.inr (.inl (some 0)), .inl a] 233 fi fr ai al N (fun o fi' fr' ai' al' => ∃ V, o = .inl (some (.inl V)) ∧ P (.inl (some (.inl 0))) fi' fr' ai' (up2 al' 232 0 (Int32.ofInt V).toInt64))) : Call 1 scL scX (d + 1) 232 [.inr (.inl (some 0)), .inl a, .inr (.inl (some 232))] 233 fi fr ai al N P := by
  refine ⟨⟨hN, rfl⟩, rc_go [] 20 ?_⟩
  refine Exists.intro N (And.intro ⟨hN, Nat.le_refl _⟩ (Call_mono _ _ _ _ _ _ _ _ _ _ _ _ _ _ (fun o fi' fr' ai' al' hq => ?_) h))
  obtain ⟨V, rfl, hP⟩ := hq
  refine And.intro ⟨by decide, by decide⟩ ?_
  exact And.intro rfl hP
theorem c_L233 {a : Int} (hN : 233 ≤ N) (h : Call 1 scL scX d 82 [.inr (.inl (some 0)), .inl a] 233 fi fr ai al N (fun o fi' fr' ai' al' => ∃ V, o = .inl (some (.inl V)) ∧ P (.inl (some (.inl 0))) fi' fr' ai' (up2 al' 232 0 (Int32.ofInt V).toInt64))) : Call 1 scL scX (d + 1) 233 [.inr (.inl (some 0)), .inl a, .inr (.inl (some 232))] 233 fi fr ai al N P := by
  refine ⟨⟨hN, rfl⟩, rc_go [] 20 ?_⟩
  refine Exists.intro N (And.intro ⟨hN, Nat.le_refl _⟩ (Call_mono _ _ _ _ _ _ _ _ _ _ _ _ _ _ (fun o fi' fr' ai' al' hq => ?_) h))
  obtain ⟨V, rfl, hP⟩ := hq
  refine And.intro ⟨by decide, by decide⟩ ?_
  exact And.intro rfl hP
theorem c_L234 {a : Int} (hN : 233 ≤ N) (h : Call 1 scL scX d 83 [.inr (.inl (some 0)), .inl a] 233 fi fr ai al N (fun o fi' fr' ai' al' => ∃ V, o = .inl (some (.inl V)) ∧ P (.inl (some (.inl 0))) fi' fr' ai' (up2 al' 232 0 (Int32.ofInt V).toInt64))) : Call 1 scL scX (d + 1) 234 [.inr (.inl (some 0)), .inl a, .inr (.inl (some 232))] 233 fi fr ai al N P := by
  refine ⟨⟨hN, rfl⟩, rc_go [] 20 ?_⟩
  refine Exists.intro N (And.intro ⟨hN, Nat.le_refl _⟩ (Call_mono _ _ _ _ _ _ _ _ _ _ _ _ _ _ (fun o fi' fr' ai' al' hq => ?_) h))
  obtain ⟨V, rfl, hP⟩ := hq
  refine And.intro ⟨by decide, by decide⟩ ?_
  exact And.intro rfl hP
theorem c_L235 {a : Int} (hN : 233 ≤ N) (h : Call 1 scL scX d 87 [.inr (.inl (some 0)), .inl a] 233 fi fr ai al N (fun o fi' fr' ai' al' => ∃ V, o = .inl (some (.inl V)) ∧ P (.inl (some (.inl 0))) fi' fr' ai' (up2 al' 232 0 (Int32.ofInt V).toInt64))) : Call 1 scL scX (d + 1) 235 [.inr (.inl (some 0)), .inl a, .inr (.inl (some 232))] 233 fi fr ai al N P := by
  refine ⟨⟨hN, rfl⟩, rc_go [] 20 ?_⟩
  refine Exists.intro N (And.intro ⟨hN, Nat.le_refl _⟩ (Call_mono _ _ _ _ _ _ _ _ _ _ _ _ _ _ (fun o fi' fr' ai' al' hq => ?_) h))
  obtain ⟨V, rfl, hP⟩ := hq
  refine And.intro ⟨by decide, by decide⟩ ?_
  exact And.intro rfl hP
theorem c_L238 {a : Int} (hN : 233 ≤ N) (h : Call 1 scL scX d 93 [.inr (.inl (some 0)), .inl a] 233 fi fr ai al N (fun o fi' fr' ai' al' => ∃ V, o = .inl (some (.inl V)) ∧ P (.inl (some (.inl 0))) fi' fr' ai' (up2 al' 232 0 (Int32.ofInt V).toInt64))) : Call 1 scL scX (d + 1) 238 [.inr (.inl (some 0)), .inl a, .inr (.inl (some 232))] 233 fi fr ai al N P := by
  refine ⟨⟨hN, rfl⟩, rc_go [] 20 ?_⟩
  refine Exists.intro N (And.intro ⟨hN, Nat.le_refl _⟩ (Call_mono _ _ _ _ _ _ _ _ _ _ _ _ _ _ (fun o fi' fr' ai' al' hq => ?_) h))
  obtain ⟨V, rfl, hP⟩ := hq
  refine And.intro ⟨by decide, by decide⟩ ?_
  exact And.intro rfl hP
theorem c_L240 {a b c : Int} (hN : 233 ≤ N) (h : Call 1 scL scX d 95 [.inr (.inl (some 0)), .inl a, .inl b, .inl c] 233 fi fr ai al N (fun o fi' fr' ai' al' => ∃ V, o = .inl (some (.inl V)) ∧ P (.inl (some (.inl 0))) fi' fr' ai' (up2 al' 232 0 (Int32.ofInt V).toInt64))) : Call 1 scL scX (d + 1) 240 [.inr (.inl (some 0)), .inl a, .inl b, .inl c, .inr (.inl (some 232))] 233 fi fr ai al N P := by
  refine ⟨⟨hN, rfl⟩, rc_go [] 20 ?_⟩
  refine Exists.intro N (And.intro ⟨hN, Nat.le_refl _⟩ (Call_mono _ _ _ _ _ _ _ _ _ _ _ _ _ _ (fun o fi' fr' ai' al' hq => ?_) h))
  obtain ⟨V, rfl, hP⟩ := hq
  refine And.intro ⟨by decide, by decide⟩ ?_
  exact And.intro rfl hP
theorem c_L241 {a : Int} (hN : 233 ≤ N) (h : Call 1 scL scX d 96 [.inr (.inl (some 0)), .inl a] 233 fi fr ai al N (fun o fi' fr' ai' al' => ∃ V, o = .inl (some (.inl V)) ∧ P (.inl (some (.inl 0))) fi' fr' ai' (up2 al' 232 0 (Int32.ofInt V).toInt64))) : Call 1 scL scX (d + 1) 241 [.inr (.inl (some 0)), .inl a, .inr (.inl (some 232))] 233 fi fr ai al N P := by
  refine ⟨⟨hN, rfl⟩, rc_go [] 20 ?_⟩
  refine Exists.intro N (And.intro ⟨hN, Nat.le_refl _⟩ (Call_mono _ _ _ _ _ _ _ _ _ _ _ _ _ _ (fun o fi' fr' ai' al' hq => ?_) h))
  obtain ⟨V, rfl, hP⟩ := hq
  refine And.intro ⟨by decide, by decide⟩ ?_
  exact And.intro rfl hP
theorem c_L242 {a b : Int} (hN : 233 ≤ N) (h : Call 1 scL scX d 97 [.inr (.inl (some 0)), .inl a, .inl b] 233 fi fr ai al N (fun o fi' fr' ai' al' => ∃ V, o = .inl (some (.inl V)) ∧ P (.inl (some (.inl 0))) fi' fr' ai' (up2 al' 232 0 (Int32.ofInt V).toInt64))) : Call 1 scL scX (d + 1) 242 [.inr (.inl (some 0)), .inl a, .inl b, .inr (.inl (some 232))] 233 fi fr ai al N P := by
  refine ⟨⟨hN, rfl⟩, rc_go [] 20 ?_⟩
  refine Exists.intro N (And.intro ⟨hN, Nat.le_refl _⟩ (Call_mono _ _ _ _ _ _ _ _ _ _ _ _ _ _ (fun o fi' fr' ai' al' hq => ?_) h))
  obtain ⟨V, rfl, hP⟩ := hq
  refine And.intro ⟨by decide, by decide⟩ ?_
  exact And.intro rfl hP
theorem c_L243 {a b : Int} (hN : 233 ≤ N) (h : Call 1 scL scX d 98 [.inr (.inl (some 0)), .inl a, .inl b] 233 fi fr ai al N (fun o fi' fr' ai' al' => ∃ V, o = .inl (some (.inl V)) ∧ P (.inl (some (.inl 0))) fi' fr' ai' (up2 al' 232 0 (Int32.ofInt V).toInt64))) : Call 1 scL scX (d + 1) 243 [.inr (.inl (some 0)), .inl a, .inl b, .inr (.inl (some 232))] 233 fi fr ai al N P := by
  refine ⟨⟨hN, rfl⟩, rc_go [] 20 ?_⟩
  refine Exists.intro N (And.intro ⟨hN, Nat.le_refl _⟩ (Call_mono _ _ _ _ _ _ _ _ _ _ _ _ _ _ (fun o fi' fr' ai' al' hq => ?_) h))
  obtain ⟨V, rfl, hP⟩ := hq
  refine And.intro ⟨by decide, by decide⟩ ?_
  exact And.intro rfl hP
theorem c_L244 {a b c : Int} (hN : 233 ≤ N) (h : Call 1 scL scX d 99 [.inr (.inl (some 0)), .inl a, .inl b, .inl c] 233 fi fr ai al N (fun o fi' fr' ai' al' => ∃ V, o = .inl (some (.inl V)) ∧ P (.inl (some (.inl 0))) fi' fr' ai' (up2 al' 232 0 (Int32.ofInt V).toInt64))) : Call 1 scL scX (d + 1) 244 [.inr (.inl (some 0)), .inl a, .inl b, .inl c, .inr (.inl (some 232))] 233 fi fr ai al N P := by
  refine ⟨⟨hN, rfl⟩, rc_go [] 20 ?_⟩
  refine Exists.intro N (And.intro ⟨hN, Nat.le_refl _⟩ (Call_mono _ _ _ _ _ _ _ _ _ _ _ _ _ _ (fun o fi' fr' ai' al' hq => ?_) h))
  obtain ⟨V, rfl, hP⟩ := hq
  refine And.intro ⟨by decide, by decide⟩ ?_
  exact And.intro rfl hP
theorem c_L246 {a : Int} (hN : 233 ≤ N) (h : Call 1 scL scX d 101 [.inr (.inl (some 0)), .inl a] 233 fi fr ai al N (fun o fi' fr' ai' al' => ∃ V, o = .inl (some (.inl V)) ∧ P (.inl (some (.inl 0))) fi' fr' ai' (up2 al' 232 0 (Int32.ofInt V).toInt64))) : Call 1 scL scX (d + 1) 246 [.inr (.inl (some 0)), .inl a, .inr (.inl (some 232))] 233 fi fr ai al N P := by
  refine ⟨⟨hN, rfl⟩, rc_go [] 20 ?_⟩
  refine Exists.intro N (And.intro ⟨hN, Nat.le_refl _⟩ (Call_mono _ _ _ _ _ _ _ _ _ _ _ _ _ _ (fun o fi' fr' ai' al' hq => ?_) h))
  obtain ⟨V, rfl, hP⟩ := hq
  refine And.intro ⟨by decide, by decide⟩ ?_
  exact And.intro rfl hP
end Wrap
section Ops
variable {scX : Nat → Int}
theorem ga_15 (hop : b32 (fun p q => p &&& q) (scX 0) 63 = 15)
    (h : Call 1 6 scX 30 79 [.inr (.inl (some 0)), .inl (scX 1), .inl (scX 2)] 233 h0I frB h0A h0L 244 (fun o fi' fr' ai' al' => ∃ V, o = .inl (some (.inl V)) ∧ Call 1 6 scX 31 172 [.inr (.inl (some 54)), .inl (scX 1), .inl (scX 2)] 244 fi' fr' ai' (up2 al' 232 0 (Int32.ofInt V).toInt64) 244 (fun o2 fi2 _ _ al2 => o2 = .inl (some (.inl V)) ∧ fi2 54 0 = 0 ∧ al2 = up2 al' 232 0 (Int32.ofInt V).toInt64))) : Good scX := by
  refine law_at (op := 15) (t := 1107) (Nf := 244) hop rfl (by decide) (by decide) (by decide) ?_
  refine rcl_go [2370] 80 ?_
  refine And.intro ⟨by decide, by decide⟩ ?_
  refine And.intro ⟨by decide, by decide⟩ ?_
  refine Exists.intro 244 (And.intro ⟨by decide, by decide⟩ ?_)
  refine c_L231 (d := 30) (by decide) (Call_mono _ _ _ _ _ _ _ _ _ _ _ _ _ _ (fun o fi' fr' ai' al' hq => ?_) h)
  obtain ⟨V, rfl, h2⟩ := hq
  refine ⟨V, rfl, ?_⟩
  refine And.intro ⟨by decide, by decide⟩ ?_
  refine And.intro ⟨by decide, by decide⟩ ?_
  refine Exists.intro 244 (And.intro ⟨by decide, by decide⟩ ?_)
  refine Call_mono _ _ _ _ _ _ _ _ _ _ _ _ _ _ (fun o2 fi2 fr2 ai2 al2 hq2 => ?_) h2
  obtain ⟨rfl, ht, rfl⟩ := hq2
  refine Exists.intro 244 (And.intro ⟨by decide, by decide⟩ (c_thrownA (d := 30) ?_))
  refine And.intro (fun _ => ?_) (fun h => absurd ht h)
  refine And.intro (fun h => absurd rfl h) (fun _ => ?_)
  refine And.intro ⟨by decide, by decide⟩ ?_
  exact And.intro (fun _ => law_end) (fun h => absurd (lgc (Int32.ofInt V).toInt64) h)
theorem ga_17 (hop : b32 (fun p q => p &&& q) (scX 0) 63 = 17)
    (h : Call 1 6 scX 30 81 [.inr (.inl (some 0)), .inl (scX 1)] 233 h0I frB h0A h0L 244 (fun o fi' fr' ai' al' => ∃ V, o = .inl (some (.inl V)) ∧ Call 1 6 scX 31 175 [.inr (.inl (some 54)), .inl (scX 1)] 244 fi' fr' ai' (up2 al' 232 0 (Int32.ofInt V).toInt64) 244 (fun o2 fi2 _ _ al2 => o2 = .inl (some (.inl V)) ∧ fi2 54 0 = 0 ∧ al2 = up2 al' 232 0 (Int32.ofInt V).toInt64))) : Good scX := by
  refine law_at (op := 17) (t := 1188) (Nf := 244) hop rfl (by decide) (by decide) (by decide) ?_
  refine rcl_go [2370] 80 ?_
  refine And.intro ⟨by decide, by decide⟩ ?_
  refine Exists.intro 244 (And.intro ⟨by decide, by decide⟩ ?_)
  refine c_L232 (d := 30) (by decide) (Call_mono _ _ _ _ _ _ _ _ _ _ _ _ _ _ (fun o fi' fr' ai' al' hq => ?_) h)
  obtain ⟨V, rfl, h2⟩ := hq
  refine ⟨V, rfl, ?_⟩
  refine And.intro ⟨by decide, by decide⟩ ?_
  refine Exists.intro 244 (And.intro ⟨by decide, by decide⟩ ?_)
  refine Call_mono _ _ _ _ _ _ _ _ _ _ _ _ _ _ (fun o2 fi2 fr2 ai2 al2 hq2 => ?_) h2
  obtain ⟨rfl, ht, rfl⟩ := hq2
  refine Exists.intro 244 (And.intro ⟨by decide, by decide⟩ (c_thrownA (d := 30) ?_))
  refine And.intro (fun _ => ?_) (fun h => absurd ht h)
  refine And.intro (fun h => absurd rfl h) (fun _ => ?_)
  refine And.intro ⟨by decide, by decide⟩ ?_
  exact And.intro (fun _ => law_end) (fun h => absurd (lgc (Int32.ofInt V).toInt64) h)
theorem ga_18 (hop : b32 (fun p q => p &&& q) (scX 0) 63 = 18)
    (h : Call 1 6 scX 30 82 [.inr (.inl (some 0)), .inl (scX 1)] 233 h0I frB h0A h0L 244 (fun o fi' fr' ai' al' => ∃ V, o = .inl (some (.inl V)) ∧ Call 1 6 scX 31 178 [.inr (.inl (some 54)), .inl (scX 1)] 244 fi' fr' ai' (up2 al' 232 0 (Int32.ofInt V).toInt64) 244 (fun o2 fi2 _ _ al2 => o2 = .inl (some (.inl V)) ∧ fi2 54 0 = 0 ∧ al2 = up2 al' 232 0 (Int32.ofInt V).toInt64))) : Good scX := by
  refine law_at (op := 18) (t := 1244) (Nf := 244) hop rfl (by decide) (by decide) (by decide) ?_
  refine rcl_go [2370] 80 ?_
  refine And.intro ⟨by decide, by decide⟩ ?_
  refine Exists.intro 244 (And.intro ⟨by decide, by decide⟩ ?_)
  refine c_L233 (d := 30) (by decide) (Call_mono _ _ _ _ _ _ _ _ _ _ _ _ _ _ (fun o fi' fr' ai' al' hq => ?_) h)
  obtain ⟨V, rfl, h2⟩ := hq
  refine ⟨V, rfl, ?_⟩
  refine And.intro ⟨by decide, by decide⟩ ?_
  refine Exists.intro 244 (And.intro ⟨by decide, by decide⟩ ?_)
  refine Call_mono _ _ _ _ _ _ _ _ _ _ _ _ _ _ (fun o2 fi2 fr2 ai2 al2 hq2 => ?_) h2
  obtain ⟨rfl, ht, rfl⟩ := hq2
  refine Exists.intro 244 (And.intro ⟨by decide, by decide⟩ (c_thrownA (d := 30) ?_))
  refine And.intro (fun _ => ?_) (fun h => absurd ht h)
  refine And.intro (fun h => absurd rfl h) (fun _ => ?_)
  refine And.intro ⟨by decide, by decide⟩ ?_
  exact And.intro (fun _ => law_end) (fun h => absurd (lgc (Int32.ofInt V).toInt64) h)
theorem ga_19 (hop : b32 (fun p q => p &&& q) (scX 0) 63 = 19)
    (h : Call 1 6 scX 30 83 [.inr (.inl (some 0)), .inl (scX 1)] 233 h0I frB h0A h0L 244 (fun o fi' fr' ai' al' => ∃ V, o = .inl (some (.inl V)) ∧ Call 1 6 scX 31 179 [.inr (.inl (some 54)), .inl (scX 1)] 244 fi' fr' ai' (up2 al' 232 0 (Int32.ofInt V).toInt64) 244 (fun o2 fi2 _ _ al2 => o2 = .inl (some (.inl V)) ∧ fi2 54 0 = 0 ∧ al2 = up2 al' 232 0 (Int32.ofInt V).toInt64))) : Good scX := by
  refine law_at (op := 19) (t := 1300) (Nf := 244) hop rfl (by decide) (by decide) (by decide) ?_
  refine rcl_go [2370] 80 ?_
  refine And.intro ⟨by decide, by decide⟩ ?_
  refine Exists.intro 244 (And.intro ⟨by decide, by decide⟩ ?_)
  refine c_L234 (d := 30) (by decide) (Call_mono _ _ _ _ _ _ _ _ _ _ _ _ _ _ (fun o fi' fr' ai' al' hq => ?_) h)
  obtain ⟨V, rfl, h2⟩ := hq
  refine ⟨V, rfl, ?_⟩
  refine And.intro ⟨by decide, by decide⟩ ?_
  refine Exists.intro 244 (And.intro ⟨by decide, by decide⟩ ?_)
  refine Call_mono _ _ _ _ _ _ _ _ _ _ _ _ _ _ (fun o2 fi2 fr2 ai2 al2 hq2 => ?_) h2
  obtain ⟨rfl, ht, rfl⟩ := hq2
  refine Exists.intro 244 (And.intro ⟨by decide, by decide⟩ (c_thrownA (d := 30) ?_))
  refine And.intro (fun _ => ?_) (fun h => absurd ht h)
  refine And.intro (fun h => absurd rfl h) (fun _ => ?_)
  refine And.intro ⟨by decide, by decide⟩ ?_
  exact And.intro (fun _ => law_end) (fun h => absurd (lgc (Int32.ofInt V).toInt64) h)
theorem ga_23 (hop : b32 (fun p q => p &&& q) (scX 0) 63 = 23)
    (h : Call 1 6 scX 30 87 [.inr (.inl (some 0)), .inl (scX 1)] 233 h0I frB h0A h0L 244 (fun o fi' fr' ai' al' => ∃ V, o = .inl (some (.inl V)) ∧ Call 1 6 scX 31 187 [.inr (.inl (some 54)), .inl (scX 1)] 244 fi' fr' ai' (up2 al' 232 0 (Int32.ofInt V).toInt64) 244 (fun o2 fi2 _ _ al2 => o2 = .inl (some (.inl V)) ∧ fi2 54 0 = 0 ∧ al2 = up2 al' 232 0 (Int32.ofInt V).toInt64))) : Good scX := by
  refine law_at (op := 23) (t := 1395) (Nf := 244) hop rfl (by decide) (by decide) (by decide) ?_
  refine rcl_go [2370] 80 ?_
  refine And.intro ⟨by decide, by decide⟩ ?_
  refine Exists.intro 244 (And.intro ⟨by decide, by decide⟩ ?_)
  refine c_L235 (d := 30) (by decide) (Call_mono _ _ _ _ _ _ _ _ _ _ _ _ _ _ (fun o fi' fr' ai' al' hq => ?_) h)
  obtain ⟨V, rfl, h2⟩ := hq
  refine ⟨V, rfl, ?_⟩
  refine And.intro ⟨by decide, by decide⟩ ?_
  refine Exists.intro 244 (And.intro ⟨by decide, by decide⟩ ?_)
  refine Call_mono _ _ _ _ _ _ _ _ _ _ _ _ _ _ (fun o2 fi2 fr2 ai2 al2 hq2 => ?_) h2
  obtain ⟨rfl, ht, rfl⟩ := hq2
  refine Exists.intro 244 (And.intro ⟨by decide, by decide⟩ (c_thrownA (d := 30) ?_))
  refine And.intro (fun _ => ?_) (fun h => absurd ht h)
  refine And.intro (fun h => absurd rfl h) (fun _ => ?_)
  refine And.intro ⟨by decide, by decide⟩ ?_
  exact And.intro (fun _ => law_end) (fun h => absurd (lgc (Int32.ofInt V).toInt64) h)
theorem ga_29 (hop : b32 (fun p q => p &&& q) (scX 0) 63 = 29)
    (h : Call 1 6 scX 30 93 [.inr (.inl (some 0)), .inl (scX 1)] 233 h0I frB h0A h0L 233 (fun o fi' fr' ai' al' => ∃ V, o = .inl (some (.inl V)) ∧ Call 1 6 scX 31 196 [.inr (.inl (some 54)), .inl (scX 1)] 233 fi' fr' ai' (up2 al' 232 0 (Int32.ofInt V).toInt64) 233 (fun o2 fi2 _ _ al2 => o2 = .inl (some (.inl V)) ∧ fi2 54 0 = 0 ∧ al2 = up2 al' 232 0 (Int32.ofInt V).toInt64))) : Good scX := by
  refine law_at (op := 29) (t := 1638) (Nf := 233) hop rfl (by decide) (by decide) (by decide) ?_
  refine rcl_go [2370] 80 ?_
  refine And.intro ⟨by decide, by decide⟩ ?_
  refine Exists.intro 233 (And.intro ⟨by decide, by decide⟩ ?_)
  refine c_L238 (d := 30) (by decide) (Call_mono _ _ _ _ _ _ _ _ _ _ _ _ _ _ (fun o fi' fr' ai' al' hq => ?_) h)
  obtain ⟨V, rfl, h2⟩ := hq
  refine ⟨V, rfl, ?_⟩
  refine And.intro ⟨by decide, by decide⟩ ?_
  refine Exists.intro 233 (And.intro ⟨by decide, by decide⟩ ?_)
  refine Call_mono _ _ _ _ _ _ _ _ _ _ _ _ _ _ (fun o2 fi2 fr2 ai2 al2 hq2 => ?_) h2
  obtain ⟨rfl, ht, rfl⟩ := hq2
  refine Exists.intro 233 (And.intro ⟨by decide, by decide⟩ (c_thrownA (d := 30) ?_))
  refine And.intro (fun _ => ?_) (fun h => absurd ht h)
  refine And.intro (fun h => absurd rfl h) (fun _ => ?_)
  refine And.intro ⟨by decide, by decide⟩ ?_
  exact And.intro (fun _ => law_end) (fun h => absurd (lgc (Int32.ofInt V).toInt64) h)
theorem ga_31 (hop : b32 (fun p q => p &&& q) (scX 0) 63 = 31)
    (h : Call 1 6 scX 30 95 [.inr (.inl (some 0)), .inl (scX 1), .inl (scX 2), .inl (scX 3)] 233 h0I frB h0A h0L 244 (fun o fi' fr' ai' al' => ∃ V, o = .inl (some (.inl V)) ∧ Call 1 6 scX 31 198 [.inr (.inl (some 54)), .inl (scX 1), .inl (scX 2), .inl (scX 3)] 244 fi' fr' ai' (up2 al' 232 0 (Int32.ofInt V).toInt64) 244 (fun o2 fi2 _ _ al2 => o2 = .inl (some (.inl V)) ∧ fi2 54 0 = 0 ∧ al2 = up2 al' 232 0 (Int32.ofInt V).toInt64))) : Good scX := by
  refine law_at (op := 31) (t := 1774) (Nf := 244) hop rfl (by decide) (by decide) (by decide) ?_
  refine rcl_go [2370] 80 ?_
  refine And.intro ⟨by decide, by decide⟩ ?_
  refine And.intro ⟨by decide, by decide⟩ ?_
  refine And.intro ⟨by decide, by decide⟩ ?_
  refine Exists.intro 244 (And.intro ⟨by decide, by decide⟩ ?_)
  refine c_L240 (d := 30) (by decide) (Call_mono _ _ _ _ _ _ _ _ _ _ _ _ _ _ (fun o fi' fr' ai' al' hq => ?_) h)
  obtain ⟨V, rfl, h2⟩ := hq
  refine ⟨V, rfl, ?_⟩
  refine And.intro ⟨by decide, by decide⟩ ?_
  refine And.intro ⟨by decide, by decide⟩ ?_
  refine And.intro ⟨by decide, by decide⟩ ?_
  refine Exists.intro 244 (And.intro ⟨by decide, by decide⟩ ?_)
  refine Call_mono _ _ _ _ _ _ _ _ _ _ _ _ _ _ (fun o2 fi2 fr2 ai2 al2 hq2 => ?_) h2
  obtain ⟨rfl, ht, rfl⟩ := hq2
  refine Exists.intro 244 (And.intro ⟨by decide, by decide⟩ (c_thrownA (d := 30) ?_))
  refine And.intro (fun _ => ?_) (fun h => absurd ht h)
  refine And.intro (fun h => absurd rfl h) (fun _ => ?_)
  refine And.intro ⟨by decide, by decide⟩ ?_
  exact And.intro (fun _ => law_end) (fun h => absurd (lgc (Int32.ofInt V).toInt64) h)
theorem ga_32 (hop : b32 (fun p q => p &&& q) (scX 0) 63 = 32)
    (h : Call 1 6 scX 30 96 [.inr (.inl (some 0)), .inl (scX 1)] 233 h0I frB h0A h0L 244 (fun o fi' fr' ai' al' => ∃ V, o = .inl (some (.inl V)) ∧ Call 1 6 scX 31 200 [.inr (.inl (some 54)), .inl (scX 1)] 244 fi' fr' ai' (up2 al' 232 0 (Int32.ofInt V).toInt64) 244 (fun o2 fi2 _ _ al2 => o2 = .inl (some (.inl V)) ∧ fi2 54 0 = 0 ∧ al2 = up2 al' 232 0 (Int32.ofInt V).toInt64))) : Good scX := by
  refine law_at (op := 32) (t := 1854) (Nf := 244) hop rfl (by decide) (by decide) (by decide) ?_
  refine rcl_go [2370] 80 ?_
  refine And.intro ⟨by decide, by decide⟩ ?_
  refine Exists.intro 244 (And.intro ⟨by decide, by decide⟩ ?_)
  refine c_L241 (d := 30) (by decide) (Call_mono _ _ _ _ _ _ _ _ _ _ _ _ _ _ (fun o fi' fr' ai' al' hq => ?_) h)
  obtain ⟨V, rfl, h2⟩ := hq
  refine ⟨V, rfl, ?_⟩
  refine And.intro ⟨by decide, by decide⟩ ?_
  refine Exists.intro 244 (And.intro ⟨by decide, by decide⟩ ?_)
  refine Call_mono _ _ _ _ _ _ _ _ _ _ _ _ _ _ (fun o2 fi2 fr2 ai2 al2 hq2 => ?_) h2
  obtain ⟨rfl, ht, rfl⟩ := hq2
  refine Exists.intro 244 (And.intro ⟨by decide, by decide⟩ (c_thrownA (d := 30) ?_))
  refine And.intro (fun _ => ?_) (fun h => absurd ht h)
  refine And.intro (fun h => absurd rfl h) (fun _ => ?_)
  refine And.intro ⟨by decide, by decide⟩ ?_
  exact And.intro (fun _ => law_end) (fun h => absurd (lgc (Int32.ofInt V).toInt64) h)
theorem ga_33 (hop : b32 (fun p q => p &&& q) (scX 0) 63 = 33)
    (h : Call 1 6 scX 30 97 [.inr (.inl (some 0)), .inl (scX 1), .inl (scX 2)] 233 h0I frB h0A h0L 244 (fun o fi' fr' ai' al' => ∃ V, o = .inl (some (.inl V)) ∧ Call 1 6 scX 31 201 [.inr (.inl (some 54)), .inl (scX 1), .inl (scX 2)] 244 fi' fr' ai' (up2 al' 232 0 (Int32.ofInt V).toInt64) 244 (fun o2 fi2 _ _ al2 => o2 = .inl (some (.inl V)) ∧ fi2 54 0 = 0 ∧ al2 = up2 al' 232 0 (Int32.ofInt V).toInt64))) : Good scX := by
  refine law_at (op := 33) (t := 1910) (Nf := 244) hop rfl (by decide) (by decide) (by decide) ?_
  refine rcl_go [2370] 80 ?_
  refine And.intro ⟨by decide, by decide⟩ ?_
  refine And.intro ⟨by decide, by decide⟩ ?_
  refine Exists.intro 244 (And.intro ⟨by decide, by decide⟩ ?_)
  refine c_L242 (d := 30) (by decide) (Call_mono _ _ _ _ _ _ _ _ _ _ _ _ _ _ (fun o fi' fr' ai' al' hq => ?_) h)
  obtain ⟨V, rfl, h2⟩ := hq
  refine ⟨V, rfl, ?_⟩
  refine And.intro ⟨by decide, by decide⟩ ?_
  refine And.intro ⟨by decide, by decide⟩ ?_
  refine Exists.intro 244 (And.intro ⟨by decide, by decide⟩ ?_)
  refine Call_mono _ _ _ _ _ _ _ _ _ _ _ _ _ _ (fun o2 fi2 fr2 ai2 al2 hq2 => ?_) h2
  obtain ⟨rfl, ht, rfl⟩ := hq2
  refine Exists.intro 244 (And.intro ⟨by decide, by decide⟩ (c_thrownA (d := 30) ?_))
  refine And.intro (fun _ => ?_) (fun h => absurd ht h)
  refine And.intro (fun h => absurd rfl h) (fun _ => ?_)
  refine And.intro ⟨by decide, by decide⟩ ?_
  exact And.intro (fun _ => law_end) (fun h => absurd (lgc (Int32.ofInt V).toInt64) h)
theorem ga_34 (hop : b32 (fun p q => p &&& q) (scX 0) 63 = 34)
    (h : Call 1 6 scX 30 98 [.inr (.inl (some 0)), .inl (scX 1), .inl (scX 2)] 233 h0I frB h0A h0L 233 (fun o fi' fr' ai' al' => ∃ V, o = .inl (some (.inl V)) ∧ Call 1 6 scX 31 203 [.inr (.inl (some 54)), .inl (scX 1), .inl (scX 2)] 233 fi' fr' ai' (up2 al' 232 0 (Int32.ofInt V).toInt64) 233 (fun o2 fi2 _ _ al2 => o2 = .inl (some (.inl V)) ∧ fi2 54 0 = 0 ∧ al2 = up2 al' 232 0 (Int32.ofInt V).toInt64))) : Good scX := by
  refine law_at (op := 34) (t := 1978) (Nf := 233) hop rfl (by decide) (by decide) (by decide) ?_
  refine rcl_go [2370] 80 ?_
  refine And.intro ⟨by decide, by decide⟩ ?_
  refine And.intro ⟨by decide, by decide⟩ ?_
  refine Exists.intro 233 (And.intro ⟨by decide, by decide⟩ ?_)
  refine c_L243 (d := 30) (by decide) (Call_mono _ _ _ _ _ _ _ _ _ _ _ _ _ _ (fun o fi' fr' ai' al' hq => ?_) h)
  obtain ⟨V, rfl, h2⟩ := hq
  refine ⟨V, rfl, ?_⟩
  refine And.intro ⟨by decide, by decide⟩ ?_
  refine And.intro ⟨by decide, by decide⟩ ?_
  refine Exists.intro 233 (And.intro ⟨by decide, by decide⟩ ?_)
  refine Call_mono _ _ _ _ _ _ _ _ _ _ _ _ _ _ (fun o2 fi2 fr2 ai2 al2 hq2 => ?_) h2
  obtain ⟨rfl, ht, rfl⟩ := hq2
  refine Exists.intro 233 (And.intro ⟨by decide, by decide⟩ (c_thrownA (d := 30) ?_))
  refine And.intro (fun _ => ?_) (fun h => absurd ht h)
  refine And.intro (fun h => absurd rfl h) (fun _ => ?_)
  refine And.intro ⟨by decide, by decide⟩ ?_
  exact And.intro (fun _ => law_end) (fun h => absurd (lgc (Int32.ofInt V).toInt64) h)
theorem ga_35 (hop : b32 (fun p q => p &&& q) (scX 0) 63 = 35)
    (h : Call 1 6 scX 30 99 [.inr (.inl (some 0)), .inl (scX 1), .inl (scX 2), .inl (scX 3)] 233 h0I frB h0A h0L 233 (fun o fi' fr' ai' al' => ∃ V, o = .inl (some (.inl V)) ∧ Call 1 6 scX 31 204 [.inr (.inl (some 54)), .inl (scX 1), .inl (scX 2), .inl (scX 3)] 233 fi' fr' ai' (up2 al' 232 0 (Int32.ofInt V).toInt64) 233 (fun o2 fi2 _ _ al2 => o2 = .inl (some (.inl V)) ∧ fi2 54 0 = 0 ∧ al2 = up2 al' 232 0 (Int32.ofInt V).toInt64))) : Good scX := by
  refine law_at (op := 35) (t := 2046) (Nf := 233) hop rfl (by decide) (by decide) (by decide) ?_
  refine rcl_go [2370] 80 ?_
  refine And.intro ⟨by decide, by decide⟩ ?_
  refine And.intro ⟨by decide, by decide⟩ ?_
  refine And.intro ⟨by decide, by decide⟩ ?_
  refine Exists.intro 233 (And.intro ⟨by decide, by decide⟩ ?_)
  refine c_L244 (d := 30) (by decide) (Call_mono _ _ _ _ _ _ _ _ _ _ _ _ _ _ (fun o fi' fr' ai' al' hq => ?_) h)
  obtain ⟨V, rfl, h2⟩ := hq
  refine ⟨V, rfl, ?_⟩
  refine And.intro ⟨by decide, by decide⟩ ?_
  refine And.intro ⟨by decide, by decide⟩ ?_
  refine And.intro ⟨by decide, by decide⟩ ?_
  refine Exists.intro 233 (And.intro ⟨by decide, by decide⟩ ?_)
  refine Call_mono _ _ _ _ _ _ _ _ _ _ _ _ _ _ (fun o2 fi2 fr2 ai2 al2 hq2 => ?_) h2
  obtain ⟨rfl, ht, rfl⟩ := hq2
  refine Exists.intro 233 (And.intro ⟨by decide, by decide⟩ (c_thrownA (d := 30) ?_))
  refine And.intro (fun _ => ?_) (fun h => absurd ht h)
  refine And.intro (fun h => absurd rfl h) (fun _ => ?_)
  refine And.intro ⟨by decide, by decide⟩ ?_
  exact And.intro (fun _ => law_end) (fun h => absurd (lgc (Int32.ofInt V).toInt64) h)
theorem ga_37 (hop : b32 (fun p q => p &&& q) (scX 0) 63 = 37)
    (h : Call 1 6 scX 30 101 [.inr (.inl (some 0)), .inl (scX 1)] 233 h0I frB h0A h0L 244 (fun o fi' fr' ai' al' => ∃ V, o = .inl (some (.inl V)) ∧ Call 1 6 scX 31 206 [.inr (.inl (some 54)), .inl (scX 1)] 244 fi' fr' ai' (up2 al' 232 0 (Int32.ofInt V).toInt64) 244 (fun o2 fi2 _ _ al2 => o2 = .inl (some (.inl V)) ∧ fi2 54 0 = 0 ∧ al2 = up2 al' 232 0 (Int32.ofInt V).toInt64))) : Good scX := by
  refine law_at (op := 37) (t := 2182) (Nf := 244) hop rfl (by decide) (by decide) (by decide) ?_
  refine rcl_go [2370] 80 ?_
  refine And.intro ⟨by decide, by decide⟩ ?_
  refine Exists.intro 244 (And.intro ⟨by decide, by decide⟩ ?_)
  refine c_L246 (d := 30) (by decide) (Call_mono _ _ _ _ _ _ _ _ _ _ _ _ _ _ (fun o fi' fr' ai' al' hq => ?_) h)
  obtain ⟨V, rfl, h2⟩ := hq
  refine ⟨V, rfl, ?_⟩
  refine And.intro ⟨by decide, by decide⟩ ?_
  refine Exists.intro 244 (And.intro ⟨by decide, by decide⟩ ?_)
  refine Call_mono _ _ _ _ _ _ _ _ _ _ _ _ _ _ (fun o2 fi2 fr2 ai2 al2 hq2 => ?_) h2
  obtain ⟨rfl, ht, rfl⟩ := hq2
  refine Exists.intro 244 (And.intro ⟨by decide, by decide⟩ (c_thrownA (d := 30) ?_))
  refine And.intro (fun _ => ?_) (fun h => absurd ht h)
  refine And.intro (fun h => absurd rfl h) (fun _ => ?_)
  refine And.intro ⟨by decide, by decide⟩ ?_
  exact And.intro (fun _ => law_end) (fun h => absurd (lgc (Int32.ofInt V).toInt64) h)
theorem gb_16 (hop : b32 (fun p q => p &&& q) (scX 0) 63 = 16)
    (h : Call 1 6 scX 31 80 [.inr (.inl (some 0))] 233 h0I frB h0A h0L 244 (fun o fi' fr' ai' al' => ∃ V, o = .inl (some (.inl V)) ∧ Call 1 6 scX 31 173 [.inr (.inl (some 54))] 244 fi' fr' ai' al' 244 (fun o2 _ _ _ _ => o2 = .inl (some (.inl V))))) : Good scX := by
  refine law_at (op := 16) (t := 1175) (Nf := 244) hop rfl (by decide) (by decide) (by decide) ?_
  refine rcl_go [2370] 20 ?_
  refine Exists.intro 244 (And.intro ⟨by decide, by decide⟩ ?_)
  refine Call_mono _ _ _ _ _ _ _ _ _ _ _ _ _ _ (fun o fi' fr' ai' al' hq => ?_) h
  obtain ⟨V, rfl, h2⟩ := hq
  refine Exists.intro 244 (And.intro ⟨by decide, by decide⟩ ?_)
  refine Call_mono _ _ _ _ _ _ _ _ _ _ _ _ _ _ (fun o2 fi2 fr2 ai2 al2 hq2 => ?_) h2
  obtain rfl := hq2
  exact And.intro (fun _ => law_end) (fun h => absurd rfl h)
theorem gb_20 (hop : b32 (fun p q => p &&& q) (scX 0) 63 = 20)
    (h : Call 1 6 scX 31 84 [.inr (.inl (some 0))] 233 h0I frB h0A h0L 244 (fun o fi' fr' ai' al' => ∃ V, o = .inl (some (.inl V)) ∧ Call 1 6 scX 31 183 [.inr (.inl (some 54))] 244 fi' fr' ai' al' 244 (fun o2 _ _ _ _ => o2 = .inl (some (.inl V))))) : Good scX := by
  refine law_at (op := 20) (t := 1356) (Nf := 244) hop rfl (by decide) (by decide) (by decide) ?_
  refine rcl_go [2370] 20 ?_
  refine Exists.intro 244 (And.intro ⟨by decide, by decide⟩ ?_)
  refine Call_mono _ _ _ _ _ _ _ _ _ _ _ _ _ _ (fun o fi' fr' ai' al' hq => ?_) h
  obtain ⟨V, rfl, h2⟩ := hq
  refine Exists.intro 244 (And.intro ⟨by decide, by decide⟩ ?_)
  refine Call_mono _ _ _ _ _ _ _ _ _ _ _ _ _ _ (fun o2 fi2 fr2 ai2 al2 hq2 => ?_) h2
  obtain rfl := hq2
  exact And.intro (fun _ => law_end) (fun h => absurd rfl h)
theorem gb_22 (hop : b32 (fun p q => p &&& q) (scX 0) 63 = 22)
    (h : Call 1 6 scX 31 86 [.inr (.inl (some 0))] 233 h0I frB h0A h0L 244 (fun o fi' fr' ai' al' => ∃ V, o = .inl (some (.inl V)) ∧ Call 1 6 scX 31 185 [.inr (.inl (some 54))] 244 fi' fr' ai' al' 244 (fun o2 _ _ _ _ => o2 = .inl (some (.inl V))))) : Good scX := by
  refine law_at (op := 22) (t := 1382) (Nf := 244) hop rfl (by decide) (by decide) (by decide) ?_
  refine rcl_go [2370] 20 ?_
  refine Exists.intro 244 (And.intro ⟨by decide, by decide⟩ ?_)
  refine Call_mono _ _ _ _ _ _ _ _ _ _ _ _ _ _ (fun o fi' fr' ai' al' hq => ?_) h
  obtain ⟨V, rfl, h2⟩ := hq
  refine Exists.intro 244 (And.intro ⟨by decide, by decide⟩ ?_)
  refine Call_mono _ _ _ _ _ _ _ _ _ _ _ _ _ _ (fun o2 fi2 fr2 ai2 al2 hq2 => ?_) h2
  obtain rfl := hq2
  exact And.intro (fun _ => law_end) (fun h => absurd rfl h)
theorem gb_24 (hop : b32 (fun p q => p &&& q) (scX 0) 63 = 24)
    (h : Call 1 6 scX 31 88 [.inr (.inl (some 0))] 233 h0I frB h0A h0L 244 (fun o fi' fr' ai' al' => ∃ V, o = .inl (some (.inl V)) ∧ Call 1 6 scX 31 188 [.inr (.inl (some 54))] 244 fi' fr' ai' al' 244 (fun o2 _ _ _ _ => o2 = .inl (some (.inl V))))) : Good scX := by
  refine law_at (op := 24) (t := 1451) (Nf := 244) hop rfl (by decide) (by decide) (by decide) ?_
  refine rcl_go [2370] 20 ?_
  refine Exists.intro 244 (And.intro ⟨by decide, by decide⟩ ?_)
  refine Call_mono _ _ _ _ _ _ _ _ _ _ _ _ _ _ (fun o fi' fr' ai' al' hq => ?_) h
  obtain ⟨V, rfl, h2⟩ := hq
  refine Exists.intro 244 (And.intro ⟨by decide, by decide⟩ ?_)
  refine Call_mono _ _ _ _ _ _ _ _ _ _ _ _ _ _ (fun o2 fi2 fr2 ai2 al2 hq2 => ?_) h2
  obtain rfl := hq2
  exact And.intro (fun _ => law_end) (fun h => absurd rfl h)
theorem gb_25 (hop : b32 (fun p q => p &&& q) (scX 0) 63 = 25)
    (h : Call 1 6 scX 31 89 [.inr (.inl (some 0))] 233 h0I frB h0A h0L 244 (fun o fi' fr' ai' al' => ∃ V, o = .inl (some (.inl V)) ∧ Call 1 6 scX 31 190 [.inr (.inl (some 54))] 244 fi' fr' ai' al' 244 (fun o2 _ _ _ _ => o2 = .inl (some (.inl V))))) : Good scX := by
  refine law_at (op := 25) (t := 1464) (Nf := 244) hop rfl (by decide) (by decide) (by decide) ?_
  refine rcl_go [2370] 20 ?_
  refine Exists.intro 244 (And.intro ⟨by decide, by decide⟩ ?_)
  refine Call_mono _ _ _ _ _ _ _ _ _ _ _ _ _ _ (fun o fi' fr' ai' al' hq => ?_) h
  obtain ⟨V, rfl, h2⟩ := hq
  refine Exists.intro 244 (And.intro ⟨by decide, by decide⟩ ?_)
  refine Call_mono _ _ _ _ _ _ _ _ _ _ _ _ _ _ (fun o2 fi2 fr2 ai2 al2 hq2 => ?_) h2
  obtain rfl := hq2
  exact And.intro (fun _ => law_end) (fun h => absurd rfl h)
end Ops
