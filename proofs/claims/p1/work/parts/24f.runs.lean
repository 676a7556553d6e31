/-! THE EVALUATOR IS SOUND: runs, and the law's run -/
/-- a callee's answers are pictures' answers -/
def CLS (E : eE) (ρ : Nat → Int) (cl : stt) (d : Nat) (K : ct) : Prop :=
  ∀ y as N T r, cl d y as N T = some r → Nat.ble (wsum as) (mt y).2.2.1 = true → (10 ≤ E.1 ∨ 233 ≤ N) → zi N T → r.2.1 ≤ 256 → N ≤ r.2.1 ∧ zi r.2.1 r.2.2 ∧
    ∀ as' fi fr ai al, sr ρ as as' → hp ρ E.1 N T fi fr ai al → ∀ P : ot, (∀ o' fi fr ai al, orr ρ r.1 o' → hp ρ E.1 r.2.1 r.2.2 fi fr ai al → P o' fi fr ai al) → K y as' N fi fr ai al r.2.1 P
section Runs
variable {E : eE} {ρ : Nat → Int} {scL : Nat} {scX : Nat → Int}
theorem cal_sound {K : ct} {P : ot} {X : kt} {r : rs} {nx : nt} {cl : stt} {d y : Nat} (hcl : CLS E ρ cl d K) (h256 : r.2.1 ≤ 256) (hn : HN E ρ nx X r)
    (hP : ∀ o' fi fr ai al, orr ρ r.1 o' → hp ρ E.1 r.2.1 r.2.2 fi fr ai al → P o' fi fr ai al) : HI E ρ (cal E cl nx (d + 1) y) K (exH (mt y).2.2.2.2 (mt y).2.2.1 P r.2.1 X) X r := by
  intro y' n rc pc np L S N T h hM hz
  cases hsp : splB n S [] with
  | none =>
    have h : (match splB n S [] with
      | none => none
      | some (as, S') => bif Nat.ble (wsum S') 8 && rcv E.1 rc as N && Nat.ble (wsum as) (mt y').2.2.1 then afC cl nx d y y' pc np L N T as S' else none) = some r := h
    rw [hsp] at h
    exact nomatch h
  | some q =>
    obtain ⟨as, S1⟩ := q
    have h : (match splB n S [] with
      | none => none
      | some (as, S') => bif Nat.ble (wsum S') 8 && rcv E.1 rc as N && Nat.ble (wsum as) (mt y').2.2.1 then afC cl nx d y y' pc np L N T as S' else none) = some r := h
    rw [hsp] at h
    obtain ⟨hb, h⟩ := bif_sn (h : (bif Nat.ble (wsum S1) 8 && rcv E.1 rc as N && Nat.ble (wsum as) (mt y').2.2.1 then afC cl nx d y y' pc np L N T as S1 else none) = some r)
    obtain ⟨hb, hw⟩ := and_tt hb
    cases hc : cl d y' as N T with
    | none =>
      unfold afC at h
      rw [hc] at h
      exact nomatch h
    | some q =>
      obtain ⟨o, N1, T1⟩ := q
      unfold afC at h
      rw [hc] at h
      have h : aft nx y pc np L S1 o N1 T1 = some r := h
      unfold aft at h
      have hle : N1 ≤ 256 := by
        by_cases hN : N1 ≤ 256
        · exact hN
        · exfalso
          have hz1 : zi N1 T1 := fun i q1 q2 => by omega
          revert h
          rcases o with (_ | v) | x
          · intro h
            have := (hn _ _ _ _ _ h (by omega) hz1).1
            omega
          · intro h
            have := (hn _ _ _ _ _ h (by omega) hz1).1
            omega
          · cases ht : fnd (mt y).2.2.2.2 pc x with
            | some t =>
              intro h
              have h : (match fnd (mt y).2.2.2.2 pc x with | some t => nx t (List.replicate (mt y).2.2.1 none) [] N1 T1 | none => some (.inr x, N1, T1)) = some r := h
              rw [ht] at h
              have := (hn _ _ _ _ _ h (by omega) hz1).1
              omega
            | none =>
              intro h
              have h : (match fnd (mt y).2.2.2.2 pc x with | some t => nx t (List.replicate (mt y).2.2.1 none) [] N1 T1 | none => some (.inr x, N1, T1)) = some r := h
              rw [ht] at h
              have h : some ((.inr x, N1, T1) : rs) = some r := h
              have h := Option.some.inj h
              rw [← h] at h256
              exact hN h256
      obtain ⟨c1, c2, c3⟩ := hcl y' as N T (o, N1, T1) hc hw hM hz hle
      have c1 : N ≤ N1 := c1
      have c2 : zi N1 T1 := c2
      have hM1 : 10 ≤ E.1 ∨ 233 ≤ N1 := by omega
      -- what stands behind the call
      have key : N1 ≤ r.2.1 ∧ zi r.2.1 r.2.2 ∧ ∀ L' S1' fi fr ai al o', lr ρ L L' → sr ρ S1 S1' → orr ρ o o' → hp ρ E.1 N1 T1 fi fr ai al → (match o' with
          | .inl none => X np L' S1' N1 fi fr ai al
          | .inl (some v) => X np L' (v :: S1') N1 fi fr ai al
          | .inr x => exH (mt y).2.2.2.2 (mt y).2.2.1 P r.2.1 X pc x N1 fi fr ai al) := by
        revert h
        rcases o with (_ | v) | x
        · intro h
          obtain ⟨g1, g2, g3⟩ := hn _ _ _ _ _ h hM1 c2
          refine ⟨g1, g2, fun L' S1' fi fr ai al o' hL hS' ho hh => ?_⟩
          rcases o' with (_ | v) | x
          · exact g3 _ _ _ _ _ _ hL hS' hh
          · exact (ho : False).elim
          · exact (ho : False).elim
        · intro h
          obtain ⟨g1, g2, g3⟩ := hn _ _ _ _ _ h hM1 c2
          refine ⟨g1, g2, fun L' S1' fi fr ai al o' hL hS' ho hh => ?_⟩
          rcases o' with (_ | v') | x
          · exact (ho : False).elim
          · exact g3 L' (v' :: S1') fi fr ai al hL ⟨ho, hS'⟩ hh
          · exact (ho : False).elim
        · cases ht : fnd (mt y).2.2.2.2 pc x with
          | some t =>
            intro h
            have h : (match fnd (mt y).2.2.2.2 pc x with | some t => nx t (List.replicate (mt y).2.2.1 none) [] N1 T1 | none => some (.inr x, N1, T1)) = some r := h
            rw [ht] at h
            obtain ⟨g1, g2, g3⟩ := hn _ _ _ _ _ h hM1 c2
            refine ⟨g1, g2, fun L' S1' fi fr ai al o' hL hS' ho hh => ?_⟩
            rcases o' with (_ | v') | x'
            · exact (ho : False).elim
            · exact (ho : False).elim
            · cases (ho : x' = x)
              show exH (mt y).2.2.2.2 (mt y).2.2.1 P r.2.1 X pc x N1 fi fr ai al
              unfold exH
              rw [ht]
              exact g3 (List.replicate (mt y).2.2.1 none) [] fi fr ai al (lr_rep _) trivial hh
          | none =>
            intro h
            have h : (match fnd (mt y).2.2.2.2 pc x with | some t => nx t (List.replicate (mt y).2.2.1 none) [] N1 T1 | none => some (.inr x, N1, T1)) = some r := h
            rw [ht] at h
            have h : some ((.inr x, N1, T1) : rs) = some r := h
            have h := Option.some.inj h
            subst h
            refine ⟨Nat.le_refl _, c2, fun L' S1' fi fr ai al o' hL hS' ho hh => ?_⟩
            rcases o' with (_ | v') | x'
            · exact (ho : False).elim
            · exact (ho : False).elim
            · cases (ho : x' = x)
              show exH (mt y).2.2.2.2 (mt y).2.2.1 P N1 X pc x N1 fi fr ai al
              unfold exH
              rw [ht]
              exact ⟨rfl, hP _ _ _ _ _ rfl hh⟩
      obtain ⟨k1, k2, k3⟩ := key
      refine ⟨by omega, k2, fun L' S' fi fr ai al hL hS' hh => ?_⟩
      show spl n S' [] _
      refine sr_spl n hS' (acc := []) (acc' := []) trivial hsp (fun as' S1' ha hS1 => ?_)
      have e : (Nat.ble (wsum S1') 8 && rcv E.1 rc as' N) = true := by rw [sr_wsum hS1, sr_rcv ha]; exact hb
      rw [e]
      refine ⟨N1, ⟨c1, k1⟩, c3 as' fi fr ai al ha hh _ (fun o' fi' fr' ai' al' ho hh' => ?_)⟩
      exact k3 L' S1' fi' fr' ai' al' o' hL hS1 ho hh'
/-- stubs are right -/
def SB (E : eE) (ρ : Nat → Int) (scL : Nat) (scX : Nat → Int) (stb : stt) : Prop := ∀ d, CLS E ρ stb d (Call E.1 scL scX (d + 1))
theorem sb_no : SB E ρ scL scX no_st := fun _ _ _ _ _ _ h => nomatch h
theorem clv_sound {stb : stt} (hst : SB E ρ scL scX stb) {ih : Nat → Nat → nt} {d : Nat}
    (hih : ∀ y L S N T r, ih d y 0 L S N T = some r → r.2.1 ≤ 256 → (10 ≤ E.1 ∨ 233 ≤ N) → zi N T → ∀ P : ot, (∀ o' fi fr ai al, orr ρ r.1 o' → hp ρ E.1 r.2.1 r.2.2 fi fr ai al → P o' fi fr ai al) → GG E ρ (Rc E.1 (Call E.1 scL scX d) (mt y) P r.2.1 scL scX) r 0 L S N T) : CLS E ρ (clv stb ih) d (Call E.1 scL scX (d + 1)) := by
  intro y as N T r h hw hM hz h256
  cases hs : stb d y as N T with
  | some r1 =>
    have h : (match stb d y as N T with | some r => some r | none => ih d y 0 (ent as (mt y).2.2.1) [] N T) = some r := h
    rw [hs] at h
    have h : some r1 = some r := h
    have h := Option.some.inj h
    subst h
    exact hst d y as N T r1 hs hw hM hz h256
  | none =>
    have h : (match stb d y as N T with | some r => some r | none => ih d y 0 (ent as (mt y).2.2.1) [] N T) = some r := h
    rw [hs] at h
    have h : ih d y 0 (ent as (mt y).2.2.1) [] N T = some r := h
    have g0 := hih _ _ _ _ _ _ h h256 hM hz (fun _ _ _ _ _ => True) (fun _ _ _ _ _ _ _ => trivial)
    refine ⟨g0.1, g0.2.1, fun as' fi fr ai al ha hh P hP => ⟨⟨g0.1, by rw [sr_wsum ha]; exact hw⟩, ?_⟩⟩
    exact (hih _ _ _ _ _ _ h h256 hM hz P hP).2.2 _ _ _ _ _ _ (sr_ent _ ha) trivial hh
theorem ev_sound (hE : EO E ρ scL scX) (hS : ∀ i, i < 256 → (shp E.1 i).2 ≤ 8388608) {stb : stt} (hst : SB E ρ scL scX stb) : ∀ f d y pc L S N T r, ev E stb f d y pc L S N T = some r → r.2.1 ≤ 256 → (10 ≤ E.1 ∨ 233 ≤ N) → zi N T → ∀ P : ot, (∀ o' fi fr ai al, orr ρ r.1 o' → hp ρ E.1 r.2.1 r.2.2 fi fr ai al → P o' fi fr ai al) → GG E ρ (Rc E.1 (Call E.1 scL scX d) (mt y) P r.2.1 scL scX) r pc L S N T
  := by
  intro f
  induction f with
  | zero => intro d y pc L S N T r h; exact nomatch (h : (none : Option rs) = some r)
  | succ f ih =>
    intro d y pc L S N T r h h256 hM hz P hP
    have h : (dcd y pc).1 E (ev E stb f d y) (cal E (clv stb (ev E stb f)) (ev E stb f d y) d y) pc L S N T = some r := h
    have hn : HN E ρ (ev E stb f d y) (Rc E.1 (Call E.1 scL scX d) (mt y) P r.2.1 scL scX) r := fun pc L S N T h hM hz => ih d y pc L S N T r h h256 hM hz P hP
    have hi : HI E ρ (cal E (clv stb (ev E stb f)) (ev E stb f d y) d y) (Call E.1 scL scX d) (exH (mt y).2.2.2.2 (mt y).2.2.1 P r.2.1 (Rc E.1 (Call E.1 scL scX d) (mt y) P r.2.1 scL scX)) (Rc E.1 (Call E.1 scL scX d) (mt y) P r.2.1 scL scX) r := by
      cases d with
      | zero => exact fun _ _ _ _ _ _ _ _ _ h => nomatch h
      | succ d' => exact cal_sound (clv_sound hst (fun y L S N T r => ih d' y 0 L S N T r)) h256 hn hP
    unfold dcd at h
    cases e : Nat.ble (mt y).2.1 pc
    · rw [e] at h
      obtain ⟨g1, g2, g3⟩ := arms_sound (K := Call E.1 scL scX d) (ex := exH (mt y).2.2.2.2 (mt y).2.2.1 P r.2.1 (Rc E.1 (Call E.1 scL scX d) (mt y) P r.2.1 scL scX)) (P := P) (X := Rc E.1 (Call E.1 scL scX d) (mt y) P r.2.1 scL scX) hE h256 hS hn hi hP ((mt y).1 pc) hM hz h
      refine ⟨g1, g2, fun L' S' fi fr ai al hL hS' hh => (Rc_clo (Call_mono _ _ _ _)).1 _ _ _ _ _ _ _ _ ?_⟩
      unfold stp
      rw [e]
      exact g3 L' S' fi fr ai al hL hS' hh
    · rw [e] at h
      exact nomatch (h : (none : Option rs) = some r)
end Runs
