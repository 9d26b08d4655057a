/-! Functions of methods, and their runs. Ours, written by fun.py -/
def Tuple_isPutIn_r : (Int32) × J → Res := fun q => (.inl (some (.inl q.1)), q.2)
-- 72: Tuple_isPutIn
def Tuple_isPutIn_b28 (n : Nat) (s0 : Int32) (σ : J) : Option ((Int32) × J) := if s0 &&& 1 = s0 then some (s0, σ) else none
def Tuple_isPutIn_b27 (n : Nat) (σ : J) : Option ((Int32) × J) := Tuple_isPutIn_b28 n 0 σ
def Tuple_isPutIn_b0 (n : Nat) (l0 : Nat) (l1 : Int32) (l2 : Int32) (σ : J) : Option ((Int32) × J) := if (σ.1 4 0 l0) = 0 then Tuple_isPutIn_b27 n σ else if (σ.1 4 3 l0) = l1 then if (σ.1 4 4 l0) = l2 then Tuple_isPutIn_b28 n 1 σ else Tuple_isPutIn_b27 n σ else Tuple_isPutIn_b27 n σ
def Tuple_isPutIn (n : Nat) (x0 : Nat) (x1 : Int32) (x2 : Int32) (σ : J) : Option ((Int32) × J) := Tuple_isPutIn_b0 n x0 x1 x2 σ
theorem Tuple_isPutIn_b28_e {n : Nat} {r0 : (Int32) × J} {s0 : Int32} {σ : J} (h : Tuple_isPutIn_b28 n s0 σ = some r0) : q_ex q_pr n 0 72 28 (q_L []) [.inl s0] σ (Tuple_isPutIn_r r0) := by
  unfold Tuple_isPutIn_b28 at h
  refine q_by h (fun hz h => ?_)
  cases h
  exact ⟨1, if_pos (e := (none : Option Res)) hz⟩
theorem Tuple_isPutIn_b27_e {n : Nat} {r0 : (Int32) × J} {σ : J} (h : Tuple_isPutIn_b27 n σ = some r0) : q_ex q_pr n 0 72 27 (q_L []) [] σ (Tuple_isPutIn_r r0) := by
  unfold Tuple_isPutIn_b27 at h
  refine q_ex_go 1 (pc' := 28) (L' := (q_L [])) (st' := [.inl 0]) (σ' := σ) (fun _ => rfl) ?_
  exact q_ex_ll (Tuple_isPutIn_b28_e h) trivial
theorem Tuple_isPutIn_b0_e {n : Nat} {r0 : (Int32) × J} {l0 : Nat} {l1 : Int32} {l2 : Int32} {σ : J} (h : Tuple_isPutIn_b0 n l0 l1 l2 σ = some r0) : q_ex q_pr n 0 72 0 (q_L [(0, .inr (.inr (some (4, l0)))), (1, .inl l1), (2, .inl l2)]) [] σ (Tuple_isPutIn_r r0) := by
  unfold Tuple_isPutIn_b0 at h
  refine q_ex_br 3 (c := (σ.1 4 0 l0) = 0) (pc1 := 27) (pc2 := 7) (L' := (q_L [(0, .inr (.inr (some (4, l0)))), (1, .inl l1), (2, .inl l2)])) (st' := []) (σ' := σ) (fun _ => rfl) (fun hc => ?_) (fun hc => ?_)
  · rw [if_pos hc] at h
    exact q_ex_ll (Tuple_isPutIn_b27_e h) trivial
  · rw [if_neg hc] at h
    refine q_ex_br 4 (c := (σ.1 4 3 l0) = l1) (pc1 := 15) (pc2 := 27) (L' := (q_L [(0, .inr (.inr (some (4, l0)))), (1, .inl l1), (2, .inl l2)])) (st' := []) (σ' := σ) (fun _ => rfl) (fun hc => ?_) (fun hc => ?_)
    · rw [if_pos hc] at h
      refine q_ex_br 4 (c := (σ.1 4 4 l0) = l2) (pc1 := 23) (pc2 := 27) (L' := (q_L [(0, .inr (.inr (some (4, l0)))), (1, .inl l1), (2, .inl l2)])) (st' := []) (σ' := σ) (fun _ => rfl) (fun hc => ?_) (fun hc => ?_)
      · rw [if_pos hc] at h
        refine q_ex_go 2 (pc' := 28) (L' := (q_L [(0, .inr (.inr (some (4, l0)))), (1, .inl l1), (2, .inl l2)])) (st' := [.inl 1]) (σ' := σ) (fun _ => rfl) ?_
        exact q_ex_ll (Tuple_isPutIn_b28_e h) trivial
      · rw [if_neg hc] at h
        exact q_ex_ll (Tuple_isPutIn_b27_e h) trivial
    · rw [if_neg hc] at h
      exact q_ex_ll (Tuple_isPutIn_b27_e h) trivial
theorem Tuple_isPutIn_e {n : Nat} {r0 : (Int32) × J} {x0 : Nat} {x1 : Int32} {x2 : Int32} {σ : J} (h : Tuple_isPutIn n x0 x1 x2 σ = some r0) : q_ex q_pr n 0 72 0 (q_args 0 [.inr (.inr (some (4, x0))), .inl x1, .inl x2]) [] σ (Tuple_isPutIn_r r0) := q_ex_ll (Tuple_isPutIn_b0_e h) ⟨rfl, rfl, rfl, trivial⟩
def Tuple_isTakenBy_r : (Int32) × J → Res := fun q => (.inl (some (.inl q.1)), q.2)
-- 75: Tuple_isTakenBy
def Tuple_isTakenBy_b28 (n : Nat) (s0 : Int32) (σ : J) : Option ((Int32) × J) := if s0 &&& 1 = s0 then some (s0, σ) else none
def Tuple_isTakenBy_b27 (n : Nat) (σ : J) : Option ((Int32) × J) := Tuple_isTakenBy_b28 n 0 σ
def Tuple_isTakenBy_b0 (n : Nat) (l0 : Nat) (l1 : Int32) (l2 : Int32) (σ : J) : Option ((Int32) × J) := if (σ.1 4 0 l0) = 0 then Tuple_isTakenBy_b27 n σ else if (σ.1 4 5 l0) = l1 then if (σ.1 4 6 l0) = l2 then Tuple_isTakenBy_b28 n 1 σ else Tuple_isTakenBy_b27 n σ else Tuple_isTakenBy_b27 n σ
def Tuple_isTakenBy (n : Nat) (x0 : Nat) (x1 : Int32) (x2 : Int32) (σ : J) : Option ((Int32) × J) := Tuple_isTakenBy_b0 n x0 x1 x2 σ
theorem Tuple_isTakenBy_b28_e {n : Nat} {r0 : (Int32) × J} {s0 : Int32} {σ : J} (h : Tuple_isTakenBy_b28 n s0 σ = some r0) : q_ex q_pr n 0 75 28 (q_L []) [.inl s0] σ (Tuple_isTakenBy_r r0) := by
  unfold Tuple_isTakenBy_b28 at h
  refine q_by h (fun hz h => ?_)
  cases h
  exact ⟨1, if_pos (e := (none : Option Res)) hz⟩
theorem Tuple_isTakenBy_b27_e {n : Nat} {r0 : (Int32) × J} {σ : J} (h : Tuple_isTakenBy_b27 n σ = some r0) : q_ex q_pr n 0 75 27 (q_L []) [] σ (Tuple_isTakenBy_r r0) := by
  unfold Tuple_isTakenBy_b27 at h
  refine q_ex_go 1 (pc' := 28) (L' := (q_L [])) (st' := [.inl 0]) (σ' := σ) (fun _ => rfl) ?_
  exact q_ex_ll (Tuple_isTakenBy_b28_e h) trivial
theorem Tuple_isTakenBy_b0_e {n : Nat} {r0 : (Int32) × J} {l0 : Nat} {l1 : Int32} {l2 : Int32} {σ : J} (h : Tuple_isTakenBy_b0 n l0 l1 l2 σ = some r0) : q_ex q_pr n 0 75 0 (q_L [(0, .inr (.inr (some (4, l0)))), (1, .inl l1), (2, .inl l2)]) [] σ (Tuple_isTakenBy_r r0) := by
  unfold Tuple_isTakenBy_b0 at h
  refine q_ex_br 3 (c := (σ.1 4 0 l0) = 0) (pc1 := 27) (pc2 := 7) (L' := (q_L [(0, .inr (.inr (some (4, l0)))), (1, .inl l1), (2, .inl l2)])) (st' := []) (σ' := σ) (fun _ => rfl) (fun hc => ?_) (fun hc => ?_)
  · rw [if_pos hc] at h
    exact q_ex_ll (Tuple_isTakenBy_b27_e h) trivial
  · rw [if_neg hc] at h
    refine q_ex_br 4 (c := (σ.1 4 5 l0) = l1) (pc1 := 15) (pc2 := 27) (L' := (q_L [(0, .inr (.inr (some (4, l0)))), (1, .inl l1), (2, .inl l2)])) (st' := []) (σ' := σ) (fun _ => rfl) (fun hc => ?_) (fun hc => ?_)
    · rw [if_pos hc] at h
      refine q_ex_br 4 (c := (σ.1 4 6 l0) = l2) (pc1 := 23) (pc2 := 27) (L' := (q_L [(0, .inr (.inr (some (4, l0)))), (1, .inl l1), (2, .inl l2)])) (st' := []) (σ' := σ) (fun _ => rfl) (fun hc => ?_) (fun hc => ?_)
      · rw [if_pos hc] at h
        refine q_ex_go 2 (pc' := 28) (L' := (q_L [(0, .inr (.inr (some (4, l0)))), (1, .inl l1), (2, .inl l2)])) (st' := [.inl 1]) (σ' := σ) (fun _ => rfl) ?_
        exact q_ex_ll (Tuple_isTakenBy_b28_e h) trivial
      · rw [if_neg hc] at h
        exact q_ex_ll (Tuple_isTakenBy_b27_e h) trivial
    · rw [if_neg hc] at h
      exact q_ex_ll (Tuple_isTakenBy_b27_e h) trivial
theorem Tuple_isTakenBy_e {n : Nat} {r0 : (Int32) × J} {x0 : Nat} {x1 : Int32} {x2 : Int32} {σ : J} (h : Tuple_isTakenBy n x0 x1 x2 σ = some r0) : q_ex q_pr n 0 75 0 (q_args 0 [.inr (.inr (some (4, x0))), .inl x1, .inl x2]) [] σ (Tuple_isTakenBy_r r0) := q_ex_ll (Tuple_isTakenBy_b0_e h) ⟨rfl, rfl, rfl, trivial⟩
def Tuple_giveBack_r : J → Res := fun σ => (.inl none, σ)
-- 70: Tuple_giveBack
def Tuple_giveBack_b0 (n : Nat) (l0 : Nat) (σ : J) : Option (J) := q_bs (q_sI σ 4 5 l0 (-1)) fun σ1 => q_bs (q_sI σ1 4 6 l0 (-1)) fun σ2 => some σ2
def Tuple_giveBack (n : Nat) (x0 : Nat) (σ : J) : Option (J) := Tuple_giveBack_b0 n x0 σ
theorem Tuple_giveBack_b0_e {n : Nat} {r0 : J} {l0 : Nat} {σ : J} (h : Tuple_giveBack_b0 n l0 σ = some r0) : q_ex q_pr n 0 70 0 (q_L [(0, .inr (.inr (some (4, l0))))]) [] σ (Tuple_giveBack_r r0) := by
  unfold Tuple_giveBack_b0 at h
  refine q_ex_go 3 (pc' := 5) (L' := (q_L [(0, .inr (.inr (some (4, l0))))])) (st' := []) (σ' := (q_sI σ 4 5 l0 (-1))) (fun _ => rfl) ?_
  refine q_nm (G := fun τ => q_ex q_pr n _ 70 5 (q_L [(0, .inr (.inr (some (4, l0))))]) [] τ _) h (fun σ1 h => ?_)
  refine q_ex_go 3 (pc' := 10) (L' := (q_L [(0, .inr (.inr (some (4, l0))))])) (st' := []) (σ' := (q_sI σ1 4 6 l0 (-1))) (fun _ => rfl) ?_
  refine q_nm (G := fun τ => q_ex q_pr n _ 70 10 (q_L [(0, .inr (.inr (some (4, l0))))]) [] τ _) h (fun σ2 h => ?_)
  cases h
  exact ⟨1, rfl⟩
theorem Tuple_giveBack_e {n : Nat} {r0 : J} {x0 : Nat} {σ : J} (h : Tuple_giveBack n x0 σ = some r0) : q_ex q_pr n 0 70 0 (q_args 0 [.inr (.inr (some (4, x0)))]) [] σ (Tuple_giveBack_r r0) := q_ex_ll (Tuple_giveBack_b0_e h) ⟨rfl, trivial⟩
def Finding_clear_r : J → Res := fun σ => (.inl none, σ)
-- 49: Finding_clear
def Finding_clear_b2 (n : Nat) (k2 : Nat → Int32 → J → Option (J)) (f : Nat) (l0 : Nat) (l1 : Int32) (σ : J) : Option (J) := if 3 ≤ l1 then q_bs (q_sI σ 12 1 l0 0) fun σ1 => some σ1 else if q_in l1 3 = true then q_bs (q_sA σ 13 l0 (upd (σ.2.1 13 l0) l1.toNatClampNeg (-1))) fun σ2 => k2 l0 (l1 + 1) σ2 else none
def Finding_clear_L2 (n : Nat) : Nat → Nat → Int32 → J → Option (J)
  | 0 => fun _ _ _ => none
  | f + 1 => fun l0 l1 σ => Finding_clear_b2 n (Finding_clear_L2 n f) f l0 l1 σ
def Finding_clear_b0 (n : Nat) (f : Nat) (l0 : Nat) (σ : J) : Option (J) := Finding_clear_L2 n f l0 0 σ
def Finding_clear (n : Nat) (f : Nat) (x0 : Nat) (σ : J) : Option (J) := Finding_clear_b0 n f x0 σ
theorem Finding_clear_b2_e {n : Nat} {r0 : J} {k2 : Nat → Int32 → J → Option (J)} {f : Nat} {l0 : Nat} {l1 : Int32} {σ : J} (hk2 : ∀ {l0 : Nat} {l1 : Int32} {σ : J}, k2 l0 l1 σ = some r0 → q_ex q_pr n 0 49 2 (q_L [(0, .inr (.inr (some (12, l0)))), (1, .inl l1)]) [] σ (Finding_clear_r r0)) (h : Finding_clear_b2 n k2 f l0 l1 σ = some r0) : q_ex q_pr n 0 49 2 (q_L [(0, .inr (.inr (some (12, l0)))), (1, .inl l1)]) [] σ (Finding_clear_r r0) := by
  unfold Finding_clear_b2 at h
  refine q_ex_br 3 (c := 3 ≤ l1) (pc1 := 20) (pc2 := 7) (L' := (q_L [(0, .inr (.inr (some (12, l0)))), (1, .inl l1)])) (st' := []) (σ' := σ) (fun _ => rfl) (fun hc => ?_) (fun hc => ?_)
  · rw [if_pos hc] at h
    refine q_ex_go 3 (pc' := 25) (L' := (q_L [(0, .inr (.inr (some (12, l0)))), (1, .inl l1)])) (st' := []) (σ' := (q_sI σ 12 1 l0 0)) (fun _ => rfl) ?_
    refine q_nm (G := fun τ => q_ex q_pr n _ 49 25 (q_L [(0, .inr (.inr (some (12, l0)))), (1, .inl l1)]) [] τ _) h (fun σ1 h => ?_)
    cases h
    exact ⟨1, rfl⟩
  · rw [if_neg hc] at h
    refine q_by h (fun hz h => ?_)
    refine q_ex_gb 5 (pc' := 14) (L' := (q_L [(0, .inr (.inr (some (12, l0)))), (1, .inl l1)])) (st' := []) (σ' := (q_sA σ 13 l0 (upd (σ.2.1 13 l0) l1.toNatClampNeg (-1)))) (fun _ => rfl) hz ?_
    refine q_nm (G := fun τ => q_ex q_pr n _ 49 14 (q_L [(0, .inr (.inr (some (12, l0)))), (1, .inl l1)]) [] τ _) h (fun σ2 h => ?_)
    refine q_ex_go 2 (pc' := 2) (L' := (q_s1 (q_L [(0, .inr (.inr (some (12, l0)))), (1, .inl l1)]) 1 (.inl (l1 + 1)))) (st' := []) (σ' := σ2) (fun _ => rfl) ?_
    exact q_ex_ll (hk2 h) ⟨rfl, rfl, trivial⟩
theorem Finding_clear_L2_e {n : Nat} {r0 : J} (f : Nat) : ∀ {l0 : Nat} {l1 : Int32} {σ : J}, Finding_clear_L2 n f l0 l1 σ = some r0 → q_ex q_pr n 0 49 2 (q_L [(0, .inr (.inr (some (12, l0)))), (1, .inl l1)]) [] σ (Finding_clear_r r0) := by
  induction f with
  | zero => intro l0 l1 σ h; cases h
  | succ f ih =>
    intro l0 l1 σ h
    exact Finding_clear_b2_e (f := f) (fun h => ih h) h
theorem Finding_clear_b0_e {n : Nat} {r0 : J} {f : Nat} {l0 : Nat} {σ : J} (h : Finding_clear_b0 n f l0 σ = some r0) : q_ex q_pr n 0 49 0 (q_L [(0, .inr (.inr (some (12, l0))))]) [] σ (Finding_clear_r r0) := by
  unfold Finding_clear_b0 at h
  refine q_ex_go 2 (pc' := 2) (L' := (q_s1 (q_L [(0, .inr (.inr (some (12, l0))))]) 1 (.inl 0))) (st' := []) (σ' := σ) (fun _ => rfl) ?_
  exact q_ex_ll (Finding_clear_L2_e f h) ⟨rfl, rfl, trivial⟩
theorem Finding_clear_e {n : Nat} {r0 : J} {f : Nat} {x0 : Nat} {σ : J} (h : Finding_clear n f x0 σ = some r0) : q_ex q_pr n 0 49 0 (q_args 0 [.inr (.inr (some (12, x0)))]) [] σ (Finding_clear_r r0) := q_ex_ll (Finding_clear_b0_e h) ⟨rfl, trivial⟩
def Tuple_isTaken_r : (Int32) × J → Res := fun q => (.inl (some (.inl q.1)), q.2)
-- 74: Tuple_isTaken
def Tuple_isTaken_b13 (n : Nat) (s0 : Int32) (σ : J) : Option ((Int32) × J) := if s0 &&& 1 = s0 then some (s0, σ) else none
def Tuple_isTaken_b0 (n : Nat) (l0 : Nat) (σ : J) : Option ((Int32) × J) := if (σ.1 4 6 l0) = (-1) then Tuple_isTaken_b13 n 0 σ else Tuple_isTaken_b13 n 1 σ
def Tuple_isTaken (n : Nat) (x0 : Nat) (σ : J) : Option ((Int32) × J) := Tuple_isTaken_b0 n x0 σ
theorem Tuple_isTaken_b13_e {n : Nat} {r0 : (Int32) × J} {s0 : Int32} {σ : J} (h : Tuple_isTaken_b13 n s0 σ = some r0) : q_ex q_pr n 0 74 13 (q_L []) [.inl s0] σ (Tuple_isTaken_r r0) := by
  unfold Tuple_isTaken_b13 at h
  refine q_by h (fun hz h => ?_)
  cases h
  exact ⟨1, if_pos (e := (none : Option Res)) hz⟩
theorem Tuple_isTaken_b0_e {n : Nat} {r0 : (Int32) × J} {l0 : Nat} {σ : J} (h : Tuple_isTaken_b0 n l0 σ = some r0) : q_ex q_pr n 0 74 0 (q_L [(0, .inr (.inr (some (4, l0))))]) [] σ (Tuple_isTaken_r r0) := by
  unfold Tuple_isTaken_b0 at h
  refine q_ex_br 4 (c := (σ.1 4 6 l0) = (-1)) (pc1 := 12) (pc2 := 8) (L' := (q_L [(0, .inr (.inr (some (4, l0))))])) (st' := []) (σ' := σ) (fun _ => rfl) (fun hc => ?_) (fun hc => ?_)
  · rw [if_pos hc] at h
    refine q_ex_go 1 (pc' := 13) (L' := (q_L [(0, .inr (.inr (some (4, l0))))])) (st' := [.inl 0]) (σ' := σ) (fun _ => rfl) ?_
    exact q_ex_ll (Tuple_isTaken_b13_e h) trivial
  · rw [if_neg hc] at h
    refine q_ex_go 2 (pc' := 13) (L' := (q_L [(0, .inr (.inr (some (4, l0))))])) (st' := [.inl 1]) (σ' := σ) (fun _ => rfl) ?_
    exact q_ex_ll (Tuple_isTaken_b13_e h) trivial
theorem Tuple_isTaken_e {n : Nat} {r0 : (Int32) × J} {x0 : Nat} {σ : J} (h : Tuple_isTaken n x0 σ = some r0) : q_ex q_pr n 0 74 0 (q_args 0 [.inr (.inr (some (4, x0)))]) [] σ (Tuple_isTaken_r r0) := q_ex_ll (Tuple_isTaken_b0_e h) ⟨rfl, trivial⟩
def Tuple_isSeenBy_r : (Int32) × J → Res := fun q => (.inl (some (.inl q.1)), q.2)
-- 73: Tuple_isSeenBy
def Tuple_isSeenBy_b35 (n : Nat) (s0 : Int32) (σ : J) : Option ((Int32) × J) := if s0 &&& 1 = s0 then some (s0, σ) else none
def Tuple_isSeenBy_b34 (n : Nat) (σ : J) : Option ((Int32) × J) := Tuple_isSeenBy_b35 n 0 σ
def Tuple_isSeenBy_b30 (n : Nat) (σ : J) : Option ((Int32) × J) := Tuple_isSeenBy_b35 n 1 σ
def Tuple_isSeenBy_b0 (n : Nat) (l0 : Nat) (l1 : Int32) (σ : J) : Option ((Int32) × J) := if (σ.1 4 0 l0) = 0 then Tuple_isSeenBy_b34 n σ else (Tuple_isTaken n l0 σ).bind fun q1 => if q1.1 = 0 then if (q1.2.1 4 4 l0) = (-1) then Tuple_isSeenBy_b30 n q1.2 else if (q1.2.1 4 3 l0) = l1 then Tuple_isSeenBy_b30 n q1.2 else Tuple_isSeenBy_b34 n q1.2 else Tuple_isSeenBy_b34 n q1.2
def Tuple_isSeenBy (n : Nat) (x0 : Nat) (x1 : Int32) (σ : J) : Option ((Int32) × J) := Tuple_isSeenBy_b0 n x0 x1 σ
theorem Tuple_isSeenBy_b35_e {n : Nat} {r0 : (Int32) × J} {s0 : Int32} {σ : J} (h : Tuple_isSeenBy_b35 n s0 σ = some r0) : q_ex q_pr n 1 73 35 (q_L []) [.inl s0] σ (Tuple_isSeenBy_r r0) := by
  unfold Tuple_isSeenBy_b35 at h
  refine q_by h (fun hz h => ?_)
  cases h
  exact ⟨1, if_pos (e := (none : Option Res)) hz⟩
theorem Tuple_isSeenBy_b34_e {n : Nat} {r0 : (Int32) × J} {σ : J} (h : Tuple_isSeenBy_b34 n σ = some r0) : q_ex q_pr n 1 73 34 (q_L []) [] σ (Tuple_isSeenBy_r r0) := by
  unfold Tuple_isSeenBy_b34 at h
  refine q_ex_go 1 (pc' := 35) (L' := (q_L [])) (st' := [.inl 0]) (σ' := σ) (fun _ => rfl) ?_
  exact q_ex_ll (Tuple_isSeenBy_b35_e h) trivial
theorem Tuple_isSeenBy_b30_e {n : Nat} {r0 : (Int32) × J} {σ : J} (h : Tuple_isSeenBy_b30 n σ = some r0) : q_ex q_pr n 1 73 30 (q_L []) [] σ (Tuple_isSeenBy_r r0) := by
  unfold Tuple_isSeenBy_b30 at h
  refine q_ex_go 2 (pc' := 35) (L' := (q_L [])) (st' := [.inl 1]) (σ' := σ) (fun _ => rfl) ?_
  exact q_ex_ll (Tuple_isSeenBy_b35_e h) trivial
theorem Tuple_isSeenBy_b0_e {n : Nat} {r0 : (Int32) × J} {l0 : Nat} {l1 : Int32} {σ : J} (h : Tuple_isSeenBy_b0 n l0 l1 σ = some r0) : q_ex q_pr n 1 73 0 (q_L [(0, .inr (.inr (some (4, l0)))), (1, .inl l1)]) [] σ (Tuple_isSeenBy_r r0) := by
  unfold Tuple_isSeenBy_b0 at h
  refine q_ex_br 3 (c := (σ.1 4 0 l0) = 0) (pc1 := 34) (pc2 := 7) (L' := (q_L [(0, .inr (.inr (some (4, l0)))), (1, .inl l1)])) (st' := []) (σ' := σ) (fun _ => rfl) (fun hc => ?_) (fun hc => ?_)
  · rw [if_pos hc] at h
    exact q_ex_ll (Tuple_isSeenBy_b34_e h) trivial
  · rw [if_neg hc] at h
    obtain ⟨q1, hq1, h⟩ := Option.bind_eq_some_iff.mp h
    refine q_ex_ca 2 (k1 := 74) (vs := [.inr (.inr (some (4, l0)))]) (pc' := 11) (L' := (q_L [(0, .inr (.inr (some (4, l0)))), (1, .inl l1)])) (rest := []) (σ' := σ) (fun _ => rfl) (q_ex_dd (Tuple_isTaken_e hq1) (Nat.le_of_ble_eq_true rfl)) rfl ?_
    refine q_ex_br 1 (c := q1.1 = 0) (pc1 := 14) (pc2 := 34) (L' := (q_L [(0, .inr (.inr (some (4, l0)))), (1, .inl l1)])) (st' := []) (σ' := q1.2) (fun _ => rfl) (fun hc => ?_) (fun hc => ?_)
    · rw [if_pos hc] at h
      refine q_ex_br 4 (c := (q1.2.1 4 4 l0) = (-1)) (pc1 := 30) (pc2 := 22) (L' := (q_L [(0, .inr (.inr (some (4, l0)))), (1, .inl l1)])) (st' := []) (σ' := q1.2) (fun _ => rfl) (fun hc => ?_) (fun hc => ?_)
      · rw [if_pos hc] at h
        exact q_ex_ll (Tuple_isSeenBy_b30_e h) trivial
      · rw [if_neg hc] at h
        refine q_ex_br 4 (c := (q1.2.1 4 3 l0) = l1) (pc1 := 30) (pc2 := 34) (L' := (q_L [(0, .inr (.inr (some (4, l0)))), (1, .inl l1)])) (st' := []) (σ' := q1.2) (fun _ => rfl) (fun hc => ?_) (fun hc => ?_)
        · rw [if_pos hc] at h
          exact q_ex_ll (Tuple_isSeenBy_b30_e h) trivial
        · rw [if_neg hc] at h
          exact q_ex_ll (Tuple_isSeenBy_b34_e h) trivial
    · rw [if_neg hc] at h
      exact q_ex_ll (Tuple_isSeenBy_b34_e h) trivial
theorem Tuple_isSeenBy_e {n : Nat} {r0 : (Int32) × J} {x0 : Nat} {x1 : Int32} {σ : J} (h : Tuple_isSeenBy n x0 x1 σ = some r0) : q_ex q_pr n 1 73 0 (q_args 0 [.inr (.inr (some (4, x0))), .inl x1]) [] σ (Tuple_isSeenBy_r r0) := q_ex_ll (Tuple_isSeenBy_b0_e h) ⟨rfl, rfl, trivial⟩
def Finding_hasNumber_r : (Int32) × J → Res := fun q => (.inl (some (.inl q.1)), q.2)
-- 51: Finding_hasNumber
def Finding_hasNumber_b2 (n : Nat) (k2 : Nat → Int32 → Int32 → J → Option ((Int32) × J)) (f : Nat) (l0 : Nat) (l1 : Int32) (l2 : Int32) (σ : J) : Option ((Int32) × J) := if 3 ≤ l2 then if (0 : Int32) &&& 1 = 0 then some (0, σ) else none else if q_in l2 3 = true then if (σ.2.1 13 l0 l2.toNatClampNeg) = l1 then if (1 : Int32) &&& 1 = 1 then some (1, σ) else none else k2 l0 l1 (l2 + 1) σ else none
def Finding_hasNumber_L2 (n : Nat) : Nat → Nat → Int32 → Int32 → J → Option ((Int32) × J)
  | 0 => fun _ _ _ _ => none
  | f + 1 => fun l0 l1 l2 σ => Finding_hasNumber_b2 n (Finding_hasNumber_L2 n f) f l0 l1 l2 σ
def Finding_hasNumber_b0 (n : Nat) (f : Nat) (l0 : Nat) (l1 : Int32) (σ : J) : Option ((Int32) × J) := Finding_hasNumber_L2 n f l0 l1 0 σ
def Finding_hasNumber (n : Nat) (f : Nat) (x0 : Nat) (x1 : Int32) (σ : J) : Option ((Int32) × J) := Finding_hasNumber_b0 n f x0 x1 σ
theorem Finding_hasNumber_b2_e {n : Nat} {r0 : (Int32) × J} {k2 : Nat → Int32 → Int32 → J → Option ((Int32) × J)} {f : Nat} {l0 : Nat} {l1 : Int32} {l2 : Int32} {σ : J} (hk2 : ∀ {l0 : Nat} {l1 : Int32} {l2 : Int32} {σ : J}, k2 l0 l1 l2 σ = some r0 → q_ex q_pr n 0 51 2 (q_L [(0, .inr (.inr (some (12, l0)))), (1, .inl l1), (2, .inl l2)]) [] σ (Finding_hasNumber_r r0)) (h : Finding_hasNumber_b2 n k2 f l0 l1 l2 σ = some r0) : q_ex q_pr n 0 51 2 (q_L [(0, .inr (.inr (some (12, l0)))), (1, .inl l1), (2, .inl l2)]) [] σ (Finding_hasNumber_r r0) := by
  unfold Finding_hasNumber_b2 at h
  refine q_ex_br 3 (c := 3 ≤ l2) (pc1 := 25) (pc2 := 7) (L' := (q_L [(0, .inr (.inr (some (12, l0)))), (1, .inl l1), (2, .inl l2)])) (st' := []) (σ' := σ) (fun _ => rfl) (fun hc => ?_) (fun hc => ?_)
  · rw [if_pos hc] at h
    refine q_ex_go 1 (pc' := 26) (L' := (q_L [(0, .inr (.inr (some (12, l0)))), (1, .inl l1), (2, .inl l2)])) (st' := [.inl 0]) (σ' := σ) (fun _ => rfl) ?_
    refine q_by h (fun hz h => ?_)
    cases h
    exact ⟨1, if_pos (e := (none : Option Res)) hz⟩
  · rw [if_neg hc] at h
    refine q_by h (fun hz h => ?_)
    refine q_ex_gb 4 (pc' := 13) (L' := (q_L [(0, .inr (.inr (some (12, l0)))), (1, .inl l1), (2, .inl l2)])) (st' := [.inl (σ.2.1 13 l0 l2.toNatClampNeg)]) (σ' := σ) (fun _ => rfl) hz ?_
    refine q_ex_br 2 (c := (σ.2.1 13 l0 l2.toNatClampNeg) = l1) (pc1 := 17) (pc2 := 19) (L' := (q_L [(0, .inr (.inr (some (12, l0)))), (1, .inl l1), (2, .inl l2)])) (st' := []) (σ' := σ) (fun _ => rfl) (fun hc => ?_) (fun hc => ?_)
    · rw [if_pos hc] at h
      refine q_ex_go 1 (pc' := 18) (L' := (q_L [(0, .inr (.inr (some (12, l0)))), (1, .inl l1), (2, .inl l2)])) (st' := [.inl 1]) (σ' := σ) (fun _ => rfl) ?_
      refine q_by h (fun hz h => ?_)
      cases h
      exact ⟨1, if_pos (e := (none : Option Res)) hz⟩
    · rw [if_neg hc] at h
      refine q_ex_go 2 (pc' := 2) (L' := (q_s1 (q_L [(0, .inr (.inr (some (12, l0)))), (1, .inl l1), (2, .inl l2)]) 2 (.inl (l2 + 1)))) (st' := []) (σ' := σ) (fun _ => rfl) ?_
      exact q_ex_ll (hk2 h) ⟨rfl, rfl, rfl, trivial⟩
theorem Finding_hasNumber_L2_e {n : Nat} {r0 : (Int32) × J} (f : Nat) : ∀ {l0 : Nat} {l1 : Int32} {l2 : Int32} {σ : J}, Finding_hasNumber_L2 n f l0 l1 l2 σ = some r0 → q_ex q_pr n 0 51 2 (q_L [(0, .inr (.inr (some (12, l0)))), (1, .inl l1), (2, .inl l2)]) [] σ (Finding_hasNumber_r r0) := by
  induction f with
  | zero => intro l0 l1 l2 σ h; cases h
  | succ f ih =>
    intro l0 l1 l2 σ h
    exact Finding_hasNumber_b2_e (f := f) (fun h => ih h) h
theorem Finding_hasNumber_b0_e {n : Nat} {r0 : (Int32) × J} {f : Nat} {l0 : Nat} {l1 : Int32} {σ : J} (h : Finding_hasNumber_b0 n f l0 l1 σ = some r0) : q_ex q_pr n 0 51 0 (q_L [(0, .inr (.inr (some (12, l0)))), (1, .inl l1)]) [] σ (Finding_hasNumber_r r0) := by
  unfold Finding_hasNumber_b0 at h
  refine q_ex_go 2 (pc' := 2) (L' := (q_s1 (q_L [(0, .inr (.inr (some (12, l0)))), (1, .inl l1)]) 2 (.inl 0))) (st' := []) (σ' := σ) (fun _ => rfl) ?_
  exact q_ex_ll (Finding_hasNumber_L2_e f h) ⟨rfl, rfl, rfl, trivial⟩
theorem Finding_hasNumber_e {n : Nat} {r0 : (Int32) × J} {f : Nat} {x0 : Nat} {x1 : Int32} {σ : J} (h : Finding_hasNumber n f x0 x1 σ = some r0) : q_ex q_pr n 0 51 0 (q_args 0 [.inr (.inr (some (12, x0))), .inl x1]) [] σ (Finding_hasNumber_r r0) := q_ex_ll (Finding_hasNumber_b0_e h) ⟨rfl, rfl, trivial⟩
def Finding_bindOrCompare_r : (Int32) × J → Res := fun q => (.inl (some (.inl q.1)), q.2)
-- 48: Finding_bindOrCompare
def Finding_bindOrCompare_b9 (n : Nat) (σ : J) : Option ((Int32) × J) := if (0 : Int32) &&& 1 = 0 then some (0, σ) else none
def Finding_bindOrCompare_b77 (n : Nat) (s0 : Int32) (σ : J) : Option ((Int32) × J) := if s0 &&& 1 = s0 then some (s0, σ) else none
def Finding_bindOrCompare_b76 (n : Nat) (σ : J) : Option ((Int32) × J) := Finding_bindOrCompare_b77 n 0 σ
def Finding_bindOrCompare_b51 (n : Nat) (l0 : Nat) (l1 : Int32) (l2 : Int32) (l3 : Int64) (σ : J) : Option ((Int32) × J) := if q_in l1 4 = true then if (σ.2.1 14 l0 l1.toNatClampNeg) = l2 then if q_in l1 4 = true then if (lg_cmp (σ.2.2.1 15 l0 l1.toNatClampNeg) l3) = 0 then Finding_bindOrCompare_b77 n 1 σ else Finding_bindOrCompare_b76 n σ else none else Finding_bindOrCompare_b76 n σ else none
def Finding_bindOrCompare_b0 (n : Nat) (l0 : Nat) (l1 : Int32) (l2 : Int32) (l3 : Int64) (σ : J) : Option ((Int32) × J) := if l1 < 0 then Finding_bindOrCompare_b9 n σ else if l1 < 4 then if ((σ.1 12 1 l0) &&& (1 <<< (l1 &&& 31))) = 0 then q_bs (q_sI σ 12 1 l0 ((σ.1 12 1 l0) ||| (1 <<< (l1 &&& 31)))) fun σ1 => if q_in l1 4 = true then q_bs (q_sA σ1 14 l0 (upd (σ1.2.1 14 l0) l1.toNatClampNeg l2)) fun σ2 => if q_in l1 4 = true then q_bs (q_sL σ2 15 l0 (vp_updL (σ2.2.2.1 15 l0) l1.toNatClampNeg l3)) fun σ3 => Finding_bindOrCompare_b51 n l0 l1 l2 l3 σ3 else none else none else Finding_bindOrCompare_b51 n l0 l1 l2 l3 σ else Finding_bindOrCompare_b9 n σ
def Finding_bindOrCompare (n : Nat) (x0 : Nat) (x1 : Int32) (x2 : Int32) (x3 : Int64) (σ : J) : Option ((Int32) × J) := Finding_bindOrCompare_b0 n x0 x1 x2 x3 σ
theorem Finding_bindOrCompare_b9_e {n : Nat} {r0 : (Int32) × J} {σ : J} (h : Finding_bindOrCompare_b9 n σ = some r0) : q_ex q_pr n 0 48 9 (q_L []) [] σ (Finding_bindOrCompare_r r0) := by
  unfold Finding_bindOrCompare_b9 at h
  refine q_ex_go 1 (pc' := 10) (L' := (q_L [])) (st' := [.inl 0]) (σ' := σ) (fun _ => rfl) ?_
  refine q_by h (fun hz h => ?_)
  cases h
  exact ⟨1, if_pos (e := (none : Option Res)) hz⟩
theorem Finding_bindOrCompare_b77_e {n : Nat} {r0 : (Int32) × J} {s0 : Int32} {σ : J} (h : Finding_bindOrCompare_b77 n s0 σ = some r0) : q_ex q_pr n 0 48 77 (q_L []) [.inl s0] σ (Finding_bindOrCompare_r r0) := by
  unfold Finding_bindOrCompare_b77 at h
  refine q_by h (fun hz h => ?_)
  cases h
  exact ⟨1, if_pos (e := (none : Option Res)) hz⟩
theorem Finding_bindOrCompare_b76_e {n : Nat} {r0 : (Int32) × J} {σ : J} (h : Finding_bindOrCompare_b76 n σ = some r0) : q_ex q_pr n 0 48 76 (q_L []) [] σ (Finding_bindOrCompare_r r0) := by
  unfold Finding_bindOrCompare_b76 at h
  refine q_ex_go 1 (pc' := 77) (L' := (q_L [])) (st' := [.inl 0]) (σ' := σ) (fun _ => rfl) ?_
  exact q_ex_ll (Finding_bindOrCompare_b77_e h) trivial
theorem Finding_bindOrCompare_b51_e {n : Nat} {r0 : (Int32) × J} {l0 : Nat} {l1 : Int32} {l2 : Int32} {l3 : Int64} {σ : J} (h : Finding_bindOrCompare_b51 n l0 l1 l2 l3 σ = some r0) : q_ex q_pr n 0 48 51 (q_L [(0, .inr (.inr (some (12, l0)))), (1, .inl l1), (2, .inl l2), (3, .inr (.inl l3))]) [] σ (Finding_bindOrCompare_r r0) := by
  unfold Finding_bindOrCompare_b51 at h
  refine q_by h (fun hz h => ?_)
  refine q_ex_gb 4 (pc' := 57) (L' := (q_L [(0, .inr (.inr (some (12, l0)))), (1, .inl l1), (2, .inl l2), (3, .inr (.inl l3))])) (st' := [.inl (σ.2.1 14 l0 l1.toNatClampNeg)]) (σ' := σ) (fun _ => rfl) hz ?_
  refine q_ex_br 2 (c := (σ.2.1 14 l0 l1.toNatClampNeg) = l2) (pc1 := 61) (pc2 := 76) (L' := (q_L [(0, .inr (.inr (some (12, l0)))), (1, .inl l1), (2, .inl l2), (3, .inr (.inl l3))])) (st' := []) (σ' := σ) (fun _ => rfl) (fun hc => ?_) (fun hc => ?_)
  · rw [if_pos hc] at h
    refine q_by h (fun hz h => ?_)
    refine q_ex_gb 4 (pc' := 67) (L' := (q_L [(0, .inr (.inr (some (12, l0)))), (1, .inl l1), (2, .inl l2), (3, .inr (.inl l3))])) (st' := [.inr (.inl (σ.2.2.1 15 l0 l1.toNatClampNeg))]) (σ' := σ) (fun _ => rfl) hz ?_
    refine q_ex_br 3 (c := (lg_cmp (σ.2.2.1 15 l0 l1.toNatClampNeg) l3) = 0) (pc1 := 72) (pc2 := 76) (L' := (q_L [(0, .inr (.inr (some (12, l0)))), (1, .inl l1), (2, .inl l2), (3, .inr (.inl l3))])) (st' := []) (σ' := σ) (fun _ => rfl) (fun hc => ?_) (fun hc => ?_)
    · rw [if_pos hc] at h
      refine q_ex_go 2 (pc' := 77) (L' := (q_L [(0, .inr (.inr (some (12, l0)))), (1, .inl l1), (2, .inl l2), (3, .inr (.inl l3))])) (st' := [.inl 1]) (σ' := σ) (fun _ => rfl) ?_
      exact q_ex_ll (Finding_bindOrCompare_b77_e h) trivial
    · rw [if_neg hc] at h
      exact q_ex_ll (Finding_bindOrCompare_b76_e h) trivial
  · rw [if_neg hc] at h
    exact q_ex_ll (Finding_bindOrCompare_b76_e h) trivial
theorem Finding_bindOrCompare_b0_e {n : Nat} {r0 : (Int32) × J} {l0 : Nat} {l1 : Int32} {l2 : Int32} {l3 : Int64} {σ : J} (h : Finding_bindOrCompare_b0 n l0 l1 l2 l3 σ = some r0) : q_ex q_pr n 0 48 0 (q_L [(0, .inr (.inr (some (12, l0)))), (1, .inl l1), (2, .inl l2), (3, .inr (.inl l3))]) [] σ (Finding_bindOrCompare_r r0) := by
  unfold Finding_bindOrCompare_b0 at h
  refine q_ex_br 2 (c := l1 < 0) (pc1 := 9) (pc2 := 4) (L' := (q_L [(0, .inr (.inr (some (12, l0)))), (1, .inl l1), (2, .inl l2), (3, .inr (.inl l3))])) (st' := []) (σ' := σ) (fun _ => rfl) (fun hc => ?_) (fun hc => ?_)
  · rw [if_pos hc] at h
    exact q_ex_ll (Finding_bindOrCompare_b9_e h) trivial
  · rw [if_neg hc] at h
    refine q_ex_br 3 (c := l1 < 4) (pc1 := 11) (pc2 := 9) (L' := (q_L [(0, .inr (.inr (some (12, l0)))), (1, .inl l1), (2, .inl l2), (3, .inr (.inl l3))])) (st' := []) (σ' := σ) (fun _ => rfl) (fun hc => ?_) (fun hc => ?_)
    · rw [if_pos hc] at h
      refine q_ex_br 9 (c := ((σ.1 12 1 l0) &&& (1 <<< (l1 &&& 31))) = 0) (pc1 := 26) (pc2 := 51) (L' := (q_s1 (q_L [(0, .inr (.inr (some (12, l0)))), (1, .inl l1), (2, .inl l2), (3, .inr (.inl l3))]) 5 (.inl (1 <<< (l1 &&& 31))))) (st' := []) (σ' := σ) (fun _ => rfl) (fun hc => ?_) (fun hc => ?_)
      · rw [if_pos hc] at h
        refine q_ex_go 6 (pc' := 37) (L' := (q_s1 (q_L [(0, .inr (.inr (some (12, l0)))), (1, .inl l1), (2, .inl l2), (3, .inr (.inl l3))]) 5 (.inl (1 <<< (l1 &&& 31))))) (st' := []) (σ' := (q_sI σ 12 1 l0 ((σ.1 12 1 l0) ||| (1 <<< (l1 &&& 31))))) (fun _ => rfl) ?_
        refine q_nm (G := fun τ => q_ex q_pr n _ 48 37 (q_s1 (q_L [(0, .inr (.inr (some (12, l0)))), (1, .inl l1), (2, .inl l2), (3, .inr (.inl l3))]) 5 (.inl (1 <<< (l1 &&& 31)))) [] τ _) h (fun σ1 h => ?_)
        refine q_by h (fun hz h => ?_)
        refine q_ex_gb 5 (pc' := 44) (L' := (q_s1 (q_L [(0, .inr (.inr (some (12, l0)))), (1, .inl l1), (2, .inl l2), (3, .inr (.inl l3))]) 5 (.inl (1 <<< (l1 &&& 31))))) (st' := []) (σ' := (q_sA σ1 14 l0 (upd (σ1.2.1 14 l0) l1.toNatClampNeg l2))) (fun _ => rfl) hz ?_
        refine q_nm (G := fun τ => q_ex q_pr n _ 48 44 (q_s1 (q_L [(0, .inr (.inr (some (12, l0)))), (1, .inl l1), (2, .inl l2), (3, .inr (.inl l3))]) 5 (.inl (1 <<< (l1 &&& 31)))) [] τ _) h (fun σ2 h => ?_)
        refine q_by h (fun hz h => ?_)
        refine q_ex_gb 5 (pc' := 51) (L' := (q_s1 (q_L [(0, .inr (.inr (some (12, l0)))), (1, .inl l1), (2, .inl l2), (3, .inr (.inl l3))]) 5 (.inl (1 <<< (l1 &&& 31))))) (st' := []) (σ' := (q_sL σ2 15 l0 (vp_updL (σ2.2.2.1 15 l0) l1.toNatClampNeg l3))) (fun _ => rfl) hz ?_
        refine q_nm (G := fun τ => q_ex q_pr n _ 48 51 (q_s1 (q_L [(0, .inr (.inr (some (12, l0)))), (1, .inl l1), (2, .inl l2), (3, .inr (.inl l3))]) 5 (.inl (1 <<< (l1 &&& 31)))) [] τ _) h (fun σ3 h => ?_)
        exact q_ex_ll (Finding_bindOrCompare_b51_e h) ⟨rfl, rfl, rfl, rfl, trivial⟩
      · rw [if_neg hc] at h
        exact q_ex_ll (Finding_bindOrCompare_b51_e h) ⟨rfl, rfl, rfl, rfl, trivial⟩
    · rw [if_neg hc] at h
      exact q_ex_ll (Finding_bindOrCompare_b9_e h) trivial
theorem Finding_bindOrCompare_e {n : Nat} {r0 : (Int32) × J} {x0 : Nat} {x1 : Int32} {x2 : Int32} {x3 : Int64} {σ : J} (h : Finding_bindOrCompare n x0 x1 x2 x3 σ = some r0) : q_ex q_pr n 0 48 0 (q_args 0 [.inr (.inr (some (12, x0))), .inl x1, .inl x2, .inr (.inl x3)]) [] σ (Finding_bindOrCompare_r r0) := q_ex_ll (Finding_bindOrCompare_b0_e h) ⟨rfl, rfl, rfl, rfl, trivial⟩
def Finding_numberFor_r : (Int32) × J → Res := fun q => (.inl (some (.inl q.1)), q.2)
-- 54: Finding_numberFor
def Finding_numberFor_b19 (n : Nat) (s0 : Int32) (σ : J) : Option ((Int32) × J) := some (s0, σ)
def Finding_numberFor_b18 (n : Nat) (σ : J) : Option ((Int32) × J) := Finding_numberFor_b19 n (-1) σ
def Finding_numberFor_b0 (n : Nat) (l0 : Nat) (l1 : Int32) (σ : J) : Option ((Int32) × J) := if l1 < 0 then Finding_numberFor_b18 n σ else if 3 ≤ l1 then Finding_numberFor_b18 n σ else if q_in l1 3 = true then Finding_numberFor_b19 n (σ.2.1 13 l0 l1.toNatClampNeg) σ else none
def Finding_numberFor (n : Nat) (x0 : Nat) (x1 : Int32) (σ : J) : Option ((Int32) × J) := Finding_numberFor_b0 n x0 x1 σ
theorem Finding_numberFor_b19_e {n : Nat} {r0 : (Int32) × J} {s0 : Int32} {σ : J} (h : Finding_numberFor_b19 n s0 σ = some r0) : q_ex q_pr n 0 54 19 (q_L []) [.inl s0] σ (Finding_numberFor_r r0) := by
  unfold Finding_numberFor_b19 at h
  cases h
  exact ⟨1, rfl⟩
theorem Finding_numberFor_b18_e {n : Nat} {r0 : (Int32) × J} {σ : J} (h : Finding_numberFor_b18 n σ = some r0) : q_ex q_pr n 0 54 18 (q_L []) [] σ (Finding_numberFor_r r0) := by
  unfold Finding_numberFor_b18 at h
  refine q_ex_go 1 (pc' := 19) (L' := (q_L [])) (st' := [.inl (-1)]) (σ' := σ) (fun _ => rfl) ?_
  exact q_ex_ll (Finding_numberFor_b19_e h) trivial
theorem Finding_numberFor_b0_e {n : Nat} {r0 : (Int32) × J} {l0 : Nat} {l1 : Int32} {σ : J} (h : Finding_numberFor_b0 n l0 l1 σ = some r0) : q_ex q_pr n 0 54 0 (q_L [(0, .inr (.inr (some (12, l0)))), (1, .inl l1)]) [] σ (Finding_numberFor_r r0) := by
  unfold Finding_numberFor_b0 at h
  refine q_ex_br 2 (c := l1 < 0) (pc1 := 18) (pc2 := 4) (L' := (q_L [(0, .inr (.inr (some (12, l0)))), (1, .inl l1)])) (st' := []) (σ' := σ) (fun _ => rfl) (fun hc => ?_) (fun hc => ?_)
  · rw [if_pos hc] at h
    exact q_ex_ll (Finding_numberFor_b18_e h) trivial
  · rw [if_neg hc] at h
    refine q_ex_br 3 (c := 3 ≤ l1) (pc1 := 18) (pc2 := 9) (L' := (q_L [(0, .inr (.inr (some (12, l0)))), (1, .inl l1)])) (st' := []) (σ' := σ) (fun _ => rfl) (fun hc => ?_) (fun hc => ?_)
    · rw [if_pos hc] at h
      exact q_ex_ll (Finding_numberFor_b18_e h) trivial
    · rw [if_neg hc] at h
      refine q_by h (fun hz h => ?_)
      refine q_ex_gb 4 (pc' := 15) (L' := (q_L [(0, .inr (.inr (some (12, l0)))), (1, .inl l1)])) (st' := [.inl (σ.2.1 13 l0 l1.toNatClampNeg)]) (σ' := σ) (fun _ => rfl) hz ?_
      refine q_ex_go 1 (pc' := 19) (L' := (q_L [(0, .inr (.inr (some (12, l0)))), (1, .inl l1)])) (st' := [.inl (σ.2.1 13 l0 l1.toNatClampNeg)]) (σ' := σ) (fun _ => rfl) ?_
      exact q_ex_ll (Finding_numberFor_b19_e h) trivial
theorem Finding_numberFor_e {n : Nat} {r0 : (Int32) × J} {x0 : Nat} {x1 : Int32} {σ : J} (h : Finding_numberFor n x0 x1 σ = some r0) : q_ex q_pr n 0 54 0 (q_args 0 [.inr (.inr (some (12, x0))), .inl x1]) [] σ (Finding_numberFor_r r0) := q_ex_ll (Finding_numberFor_b0_e h) ⟨rfl, rfl, trivial⟩
def Finding_copyFrom_r : J → Res := fun σ => (.inl none, σ)
-- 50: Finding_copyFrom
def Finding_copyFrom_b0 (n : Nat) (l0 : Nat) (l1 : Nat) (σ : J) : Option (J) := if q_cpo 0 0 3 3 3 = true then q_bs (q_sA σ 13 l0 (va_cpy (σ.2.1 13 l1) (σ.2.1 13 l0) (0 : Int32).toNatClampNeg (0 : Int32).toNatClampNeg (3 : Int32).toNatClampNeg)) fun σ1 => q_bs (q_sI σ1 12 1 l0 (σ1.1 12 1 l1)) fun σ2 => if q_cpo 0 0 4 4 4 = true then q_bs (q_sA σ2 14 l0 (va_cpy (σ2.2.1 14 l1) (σ2.2.1 14 l0) (0 : Int32).toNatClampNeg (0 : Int32).toNatClampNeg (4 : Int32).toNatClampNeg)) fun σ3 => if q_cpo 0 0 4 4 4 = true then q_bs (q_sL σ3 15 l0 (va_cpy (σ3.2.2.1 15 l1) (σ3.2.2.1 15 l0) (0 : Int32).toNatClampNeg (0 : Int32).toNatClampNeg (4 : Int32).toNatClampNeg)) fun σ4 => some σ4 else none else none else none
def Finding_copyFrom (n : Nat) (x0 : Nat) (x1 : Nat) (σ : J) : Option (J) := Finding_copyFrom_b0 n x0 x1 σ
theorem Finding_copyFrom_b0_e {n : Nat} {r0 : J} {l0 : Nat} {l1 : Nat} {σ : J} (h : Finding_copyFrom_b0 n l0 l1 σ = some r0) : q_ex q_pr n 0 50 0 (q_L [(0, .inr (.inr (some (12, l0)))), (1, .inr (.inr (some (12, l1))))]) [] σ (Finding_copyFrom_r r0) := by
  unfold Finding_copyFrom_b0 at h
  refine q_by h (fun hz h => ?_)
  refine q_ex_gb 8 (b := q_cpo 0 0 3 3 3 && true) (pc' := 14) (L' := (q_L [(0, .inr (.inr (some (12, l0)))), (1, .inr (.inr (some (12, l1))))])) (st' := []) (σ' := (q_sA σ 13 l0 (va_cpy (σ.2.1 13 l1) (σ.2.1 13 l0) (0 : Int32).toNatClampNeg (0 : Int32).toNatClampNeg (3 : Int32).toNatClampNeg))) (fun _ => rfl) (q_bt hz) ?_
  refine q_nm (G := fun τ => q_ex q_pr n _ 50 14 (q_L [(0, .inr (.inr (some (12, l0)))), (1, .inr (.inr (some (12, l1))))]) [] τ _) h (fun σ1 h => ?_)
  refine q_ex_go 4 (pc' := 22) (L' := (q_L [(0, .inr (.inr (some (12, l0)))), (1, .inr (.inr (some (12, l1))))])) (st' := []) (σ' := (q_sI σ1 12 1 l0 (σ1.1 12 1 l1))) (fun _ => rfl) ?_
  refine q_nm (G := fun τ => q_ex q_pr n _ 50 22 (q_L [(0, .inr (.inr (some (12, l0)))), (1, .inr (.inr (some (12, l1))))]) [] τ _) h (fun σ2 h => ?_)
  refine q_by h (fun hz h => ?_)
  refine q_ex_gb 8 (b := q_cpo 0 0 4 4 4 && true) (pc' := 36) (L' := (q_L [(0, .inr (.inr (some (12, l0)))), (1, .inr (.inr (some (12, l1))))])) (st' := []) (σ' := (q_sA σ2 14 l0 (va_cpy (σ2.2.1 14 l1) (σ2.2.1 14 l0) (0 : Int32).toNatClampNeg (0 : Int32).toNatClampNeg (4 : Int32).toNatClampNeg))) (fun _ => rfl) (q_bt hz) ?_
  refine q_nm (G := fun τ => q_ex q_pr n _ 50 36 (q_L [(0, .inr (.inr (some (12, l0)))), (1, .inr (.inr (some (12, l1))))]) [] τ _) h (fun σ3 h => ?_)
  refine q_by h (fun hz h => ?_)
  refine q_ex_gb 8 (b := q_cpo 0 0 4 4 4 && true) (pc' := 50) (L' := (q_L [(0, .inr (.inr (some (12, l0)))), (1, .inr (.inr (some (12, l1))))])) (st' := []) (σ' := (q_sL σ3 15 l0 (va_cpy (σ3.2.2.1 15 l1) (σ3.2.2.1 15 l0) (0 : Int32).toNatClampNeg (0 : Int32).toNatClampNeg (4 : Int32).toNatClampNeg))) (fun _ => rfl) (q_bt hz) ?_
  refine q_nm (G := fun τ => q_ex q_pr n _ 50 50 (q_L [(0, .inr (.inr (some (12, l0)))), (1, .inr (.inr (some (12, l1))))]) [] τ _) h (fun σ4 h => ?_)
  cases h
  exact ⟨1, rfl⟩
theorem Finding_copyFrom_e {n : Nat} {r0 : J} {x0 : Nat} {x1 : Nat} {σ : J} (h : Finding_copyFrom n x0 x1 σ = some r0) : q_ex q_pr n 0 50 0 (q_args 0 [.inr (.inr (some (12, x0))), .inr (.inr (some (12, x1)))]) [] σ (Finding_copyFrom_r r0) := q_ex_ll (Finding_copyFrom_b0_e h) ⟨rfl, rfl, trivial⟩
def Tuple_takeFor_r : J → Res := fun σ => (.inl none, σ)
-- 78: Tuple_takeFor
def Tuple_takeFor_b22 (n : Nat) (σ : J) : Option (J) := some σ
def Tuple_takeFor_b0 (n : Nat) (l0 : Nat) (l1 : Int32) (l2 : Int32) (σ : J) : Option (J) := if l2 = 0 then if (0 : Int32) &&& 1 = 0 then q_bs (q_sI σ 4 0 l0 0) fun σ1 => Tuple_takeFor_b22 n σ1 else none else q_bs (q_sI σ 4 5 l0 l1) fun σ2 => q_bs (q_sI σ2 4 6 l0 l2) fun σ3 => Tuple_takeFor_b22 n σ3
def Tuple_takeFor (n : Nat) (x0 : Nat) (x1 : Int32) (x2 : Int32) (σ : J) : Option (J) := Tuple_takeFor_b0 n x0 x1 x2 σ
theorem Tuple_takeFor_b22_e {n : Nat} {r0 : J} {σ : J} (h : Tuple_takeFor_b22 n σ = some r0) : q_ex q_pr n 0 78 22 (q_L []) [] σ (Tuple_takeFor_r r0) := by
  unfold Tuple_takeFor_b22 at h
  cases h
  exact ⟨1, rfl⟩
theorem Tuple_takeFor_b0_e {n : Nat} {r0 : J} {l0 : Nat} {l1 : Int32} {l2 : Int32} {σ : J} (h : Tuple_takeFor_b0 n l0 l1 l2 σ = some r0) : q_ex q_pr n 0 78 0 (q_L [(0, .inr (.inr (some (4, l0)))), (1, .inl l1), (2, .inl l2)]) [] σ (Tuple_takeFor_r r0) := by
  unfold Tuple_takeFor_b0 at h
  refine q_ex_br 2 (c := l2 = 0) (pc1 := 4) (pc2 := 12) (L' := (q_L [(0, .inr (.inr (some (4, l0)))), (1, .inl l1), (2, .inl l2)])) (st' := []) (σ' := σ) (fun _ => rfl) (fun hc => ?_) (fun hc => ?_)
  · rw [if_pos hc] at h
    refine q_by h (fun hz h => ?_)
    refine q_ex_gi 3 (pc' := 9) (L' := (q_L [(0, .inr (.inr (some (4, l0)))), (1, .inl l1), (2, .inl l2)])) (st' := []) (σ' := (q_sI σ 4 0 l0 0)) (fun _ => rfl) hz ?_
    refine q_nm (G := fun τ => q_ex q_pr n _ 78 9 (q_L [(0, .inr (.inr (some (4, l0)))), (1, .inl l1), (2, .inl l2)]) [] τ _) h (fun σ1 h => ?_)
    refine q_ex_go 1 (pc' := 22) (L' := (q_L [(0, .inr (.inr (some (4, l0)))), (1, .inl l1), (2, .inl l2)])) (st' := []) (σ' := σ1) (fun _ => rfl) ?_
    exact q_ex_ll (Tuple_takeFor_b22_e h) trivial
  · rw [if_neg hc] at h
    refine q_ex_go 3 (pc' := 17) (L' := (q_L [(0, .inr (.inr (some (4, l0)))), (1, .inl l1), (2, .inl l2)])) (st' := []) (σ' := (q_sI σ 4 5 l0 l1)) (fun _ => rfl) ?_
    refine q_nm (G := fun τ => q_ex q_pr n _ 78 17 (q_L [(0, .inr (.inr (some (4, l0)))), (1, .inl l1), (2, .inl l2)]) [] τ _) h (fun σ2 h => ?_)
    refine q_ex_go 3 (pc' := 22) (L' := (q_L [(0, .inr (.inr (some (4, l0)))), (1, .inl l1), (2, .inl l2)])) (st' := []) (σ' := (q_sI σ2 4 6 l0 l2)) (fun _ => rfl) ?_
    refine q_nm (G := fun τ => q_ex q_pr n _ 78 22 (q_L [(0, .inr (.inr (some (4, l0)))), (1, .inl l1), (2, .inl l2)]) [] τ _) h (fun σ3 h => ?_)
    exact q_ex_ll (Tuple_takeFor_b22_e h) trivial
theorem Tuple_takeFor_e {n : Nat} {r0 : J} {x0 : Nat} {x1 : Int32} {x2 : Int32} {σ : J} (h : Tuple_takeFor n x0 x1 x2 σ = some r0) : q_ex q_pr n 0 78 0 (q_args 0 [.inr (.inr (some (4, x0))), .inl x1, .inl x2]) [] σ (Tuple_takeFor_r r0) := q_ex_ll (Tuple_takeFor_b0_e h) ⟨rfl, rfl, rfl, trivial⟩
def Line_placeOf_r : (Int32) × J → Res := fun q => (.inl (some (.inl q.1)), q.2)
-- 57: Line_placeOf
def Line_placeOf_b2 (n : Nat) (k2 : Int32 → Int32 → J → Option ((Int32) × J)) (f : Nat) (l1 : Int32) (l2 : Int32) (σ : J) : Option ((Int32) × J) := if (σ.1 21 1 0) ≤ l2 then some ((-1), σ) else if q_in l2 4 = true then if (σ.2.1 22 0 l2.toNatClampNeg) = l1 then some (l2, σ) else k2 l1 (l2 + 1) σ else none
def Line_placeOf_L2 (n : Nat) : Nat → Int32 → Int32 → J → Option ((Int32) × J)
  | 0 => fun _ _ _ => none
  | f + 1 => fun l1 l2 σ => Line_placeOf_b2 n (Line_placeOf_L2 n f) f l1 l2 σ
def Line_placeOf_b0 (n : Nat) (f : Nat) (l1 : Int32) (σ : J) : Option ((Int32) × J) := Line_placeOf_L2 n f l1 0 σ
def Line_placeOf (n : Nat) (f : Nat) (x1 : Int32) (σ : J) : Option ((Int32) × J) := Line_placeOf_b0 n f x1 σ
theorem Line_placeOf_b2_e {n : Nat} {r0 : (Int32) × J} {k2 : Int32 → Int32 → J → Option ((Int32) × J)} {f : Nat} {l1 : Int32} {l2 : Int32} {σ : J} (hk2 : ∀ {l1 : Int32} {l2 : Int32} {σ : J}, k2 l1 l2 σ = some r0 → q_ex q_pr n 0 57 2 (q_L [(0, .inr (.inr (some (21, 0)))), (1, .inl l1), (2, .inl l2)]) [] σ (Line_placeOf_r r0)) (h : Line_placeOf_b2 n k2 f l1 l2 σ = some r0) : q_ex q_pr n 0 57 2 (q_L [(0, .inr (.inr (some (21, 0)))), (1, .inl l1), (2, .inl l2)]) [] σ (Line_placeOf_r r0) := by
  unfold Line_placeOf_b2 at h
  refine q_ex_br 4 (c := (σ.1 21 1 0) ≤ l2) (pc1 := 28) (pc2 := 10) (L' := (q_L [(0, .inr (.inr (some (21, 0)))), (1, .inl l1), (2, .inl l2)])) (st' := []) (σ' := σ) (fun _ => rfl) (fun hc => ?_) (fun hc => ?_)
  · rw [if_pos hc] at h
    refine q_ex_go 1 (pc' := 29) (L' := (q_L [(0, .inr (.inr (some (21, 0)))), (1, .inl l1), (2, .inl l2)])) (st' := [.inl (-1)]) (σ' := σ) (fun _ => rfl) ?_
    cases h
    exact ⟨1, rfl⟩
  · rw [if_neg hc] at h
    refine q_by h (fun hz h => ?_)
    refine q_ex_gb 4 (pc' := 16) (L' := (q_L [(0, .inr (.inr (some (21, 0)))), (1, .inl l1), (2, .inl l2)])) (st' := [.inl (σ.2.1 22 0 l2.toNatClampNeg)]) (σ' := σ) (fun _ => rfl) hz ?_
    refine q_ex_br 2 (c := (σ.2.1 22 0 l2.toNatClampNeg) = l1) (pc1 := 20) (pc2 := 22) (L' := (q_L [(0, .inr (.inr (some (21, 0)))), (1, .inl l1), (2, .inl l2)])) (st' := []) (σ' := σ) (fun _ => rfl) (fun hc => ?_) (fun hc => ?_)
    · rw [if_pos hc] at h
      refine q_ex_go 1 (pc' := 21) (L' := (q_L [(0, .inr (.inr (some (21, 0)))), (1, .inl l1), (2, .inl l2)])) (st' := [.inl l2]) (σ' := σ) (fun _ => rfl) ?_
      cases h
      exact ⟨1, rfl⟩
    · rw [if_neg hc] at h
      refine q_ex_go 2 (pc' := 2) (L' := (q_s1 (q_L [(0, .inr (.inr (some (21, 0)))), (1, .inl l1), (2, .inl l2)]) 2 (.inl (l2 + 1)))) (st' := []) (σ' := σ) (fun _ => rfl) ?_
      exact q_ex_ll (hk2 h) ⟨rfl, rfl, rfl, trivial⟩
theorem Line_placeOf_L2_e {n : Nat} {r0 : (Int32) × J} (f : Nat) : ∀ {l1 : Int32} {l2 : Int32} {σ : J}, Line_placeOf_L2 n f l1 l2 σ = some r0 → q_ex q_pr n 0 57 2 (q_L [(0, .inr (.inr (some (21, 0)))), (1, .inl l1), (2, .inl l2)]) [] σ (Line_placeOf_r r0) := by
  induction f with
  | zero => intro l1 l2 σ h; cases h
  | succ f ih =>
    intro l1 l2 σ h
    exact Line_placeOf_b2_e (f := f) (fun h => ih h) h
theorem Line_placeOf_b0_e {n : Nat} {r0 : (Int32) × J} {f : Nat} {l1 : Int32} {σ : J} (h : Line_placeOf_b0 n f l1 σ = some r0) : q_ex q_pr n 0 57 0 (q_L [(0, .inr (.inr (some (21, 0)))), (1, .inl l1)]) [] σ (Line_placeOf_r r0) := by
  unfold Line_placeOf_b0 at h
  refine q_ex_go 2 (pc' := 2) (L' := (q_s1 (q_L [(0, .inr (.inr (some (21, 0)))), (1, .inl l1)]) 2 (.inl 0))) (st' := []) (σ' := σ) (fun _ => rfl) ?_
  exact q_ex_ll (Line_placeOf_L2_e f h) ⟨rfl, rfl, rfl, trivial⟩
theorem Line_placeOf_e {n : Nat} {r0 : (Int32) × J} {f : Nat} {x1 : Int32} {σ : J} (h : Line_placeOf n f x1 σ = some r0) : q_ex q_pr n 0 57 0 (q_args 0 [.inr (.inr (some (21, 0))), .inl x1]) [] σ (Line_placeOf_r r0) := q_ex_ll (Line_placeOf_b0_e h) ⟨rfl, rfl, trivial⟩
def Line_remove_r : J → Res := fun σ => (.inl none, σ)
-- 58: Line_remove
def Line_remove_b0 (n : Nat) (f : Nat) (l1 : Int32) (σ : J) : Option (J) := (Line_placeOf n f l1 σ).bind fun q1 => if q1.1 = (-1) then some q1.2 else q_bs (q_sI q1.2 21 1 0 ((q1.2.1 21 1 0) - 1)) fun σ2 => if q_cpo (q1.1 + 1) q1.1 ((σ2.1 21 1 0) - q1.1) 4 4 = true then q_bs (q_sA σ2 22 0 (va_cpy (σ2.2.1 22 0) (σ2.2.1 22 0) (q1.1 + 1).toNatClampNeg q1.1.toNatClampNeg ((σ2.1 21 1 0) - q1.1).toNatClampNeg)) fun σ3 => some σ3 else none
def Line_remove (n : Nat) (f : Nat) (x1 : Int32) (σ : J) : Option (J) := Line_remove_b0 n f x1 σ
theorem Line_remove_b0_e {n : Nat} {r0 : J} {f : Nat} {l1 : Int32} {σ : J} (h : Line_remove_b0 n f l1 σ = some r0) : q_ex q_pr n 1 58 0 (q_L [(0, .inr (.inr (some (21, 0)))), (1, .inl l1)]) [] σ (Line_remove_r r0) := by
  unfold Line_remove_b0 at h
  obtain ⟨q1, hq1, h⟩ := Option.bind_eq_some_iff.mp h
  refine q_ex_ca 3 (k1 := 57) (vs := [.inr (.inr (some (21, 0))), .inl l1]) (pc' := 5) (L' := (q_L [(0, .inr (.inr (some (21, 0)))), (1, .inl l1)])) (rest := []) (σ' := σ) (fun _ => rfl) (q_ex_dd (Line_placeOf_e hq1) (Nat.le_of_ble_eq_true rfl)) rfl ?_
  refine q_ex_br 4 (c := q1.1 = (-1)) (pc1 := 11) (pc2 := 12) (L' := (q_s1 (q_L [(0, .inr (.inr (some (21, 0)))), (1, .inl l1)]) 2 (.inl q1.1))) (st' := []) (σ' := q1.2) (fun _ => rfl) (fun hc => ?_) (fun hc => ?_)
  · rw [if_pos hc] at h
    cases h
    exact ⟨1, rfl⟩
  · rw [if_neg hc] at h
    refine q_ex_go 6 (pc' := 22) (L' := (q_s1 (q_L [(0, .inr (.inr (some (21, 0)))), (1, .inl l1)]) 2 (.inl q1.1))) (st' := []) (σ' := (q_sI q1.2 21 1 0 ((q1.2.1 21 1 0) - 1))) (fun _ => rfl) ?_
    refine q_nm (G := fun τ => q_ex q_pr n _ 58 22 (q_s1 (q_L [(0, .inr (.inr (some (21, 0)))), (1, .inl l1)]) 2 (.inl q1.1)) [] τ _) h (fun σ2 h => ?_)
    refine q_by h (fun hz h => ?_)
    refine q_ex_gb 13 (b := q_cpo (q1.1 + 1) q1.1 ((σ2.1 21 1 0) - q1.1) 4 4 && true) (pc' := 43) (L' := (q_s1 (q_L [(0, .inr (.inr (some (21, 0)))), (1, .inl l1)]) 2 (.inl q1.1))) (st' := []) (σ' := (q_sA σ2 22 0 (va_cpy (σ2.2.1 22 0) (σ2.2.1 22 0) (q1.1 + 1).toNatClampNeg q1.1.toNatClampNeg ((σ2.1 21 1 0) - q1.1).toNatClampNeg))) (fun _ => rfl) (q_bt hz) ?_
    refine q_nm (G := fun τ => q_ex q_pr n _ 58 43 (q_s1 (q_L [(0, .inr (.inr (some (21, 0)))), (1, .inl l1)]) 2 (.inl q1.1)) [] τ _) h (fun σ3 h => ?_)
    cases h
    exact ⟨1, rfl⟩
theorem Line_remove_e {n : Nat} {r0 : J} {f : Nat} {x1 : Int32} {σ : J} (h : Line_remove n f x1 σ = some r0) : q_ex q_pr n 1 58 0 (q_args 0 [.inr (.inr (some (21, 0))), .inl x1]) [] σ (Line_remove_r r0) := q_ex_ll (Line_remove_b0_e h) ⟨rfl, rfl, trivial⟩
def Fields_valueAt_r : (Int64) × J → Res := fun q => (.inl (some (.inr (.inl q.1))), q.2)
-- 47: Fields_valueAt
def Fields_valueAt_b24 (n : Nat) (s0 : Int64) (σ : J) : Option ((Int64) × J) := some (s0, σ)
def Fields_valueAt_b21 (n : Nat) (σ : J) : Option ((Int64) × J) := Fields_valueAt_b24 n (-1) σ
def Fields_valueAt_b0 (n : Nat) (l0 : Nat) (l1 : Int32) (σ : J) : Option ((Int64) × J) := if l1 < 0 then Fields_valueAt_b21 n σ else if (σ.1 5 0 l0) ≤ l1 then Fields_valueAt_b21 n σ else if q_in l1 4 = true then Fields_valueAt_b24 n (σ.2.2.1 7 l0 l1.toNatClampNeg) σ else none
def Fields_valueAt (n : Nat) (x0 : Nat) (x1 : Int32) (σ : J) : Option ((Int64) × J) := Fields_valueAt_b0 n x0 x1 σ
theorem Fields_valueAt_b24_e {n : Nat} {r0 : (Int64) × J} {s0 : Int64} {σ : J} (h : Fields_valueAt_b24 n s0 σ = some r0) : q_ex q_pr n 0 47 24 (q_L []) [.inr (.inl s0)] σ (Fields_valueAt_r r0) := by
  unfold Fields_valueAt_b24 at h
  cases h
  exact ⟨1, rfl⟩
theorem Fields_valueAt_b21_e {n : Nat} {r0 : (Int64) × J} {σ : J} (h : Fields_valueAt_b21 n σ = some r0) : q_ex q_pr n 0 47 21 (q_L []) [] σ (Fields_valueAt_r r0) := by
  unfold Fields_valueAt_b21 at h
  refine q_ex_go 1 (pc' := 24) (L' := (q_L [])) (st' := [.inr (.inl (-1))]) (σ' := σ) (fun _ => rfl) ?_
  exact q_ex_ll (Fields_valueAt_b24_e h) trivial
theorem Fields_valueAt_b0_e {n : Nat} {r0 : (Int64) × J} {l0 : Nat} {l1 : Int32} {σ : J} (h : Fields_valueAt_b0 n l0 l1 σ = some r0) : q_ex q_pr n 0 47 0 (q_L [(0, .inr (.inr (some (5, l0)))), (1, .inl l1)]) [] σ (Fields_valueAt_r r0) := by
  unfold Fields_valueAt_b0 at h
  refine q_ex_br 2 (c := l1 < 0) (pc1 := 21) (pc2 := 4) (L' := (q_L [(0, .inr (.inr (some (5, l0)))), (1, .inl l1)])) (st' := []) (σ' := σ) (fun _ => rfl) (fun hc => ?_) (fun hc => ?_)
  · rw [if_pos hc] at h
    exact q_ex_ll (Fields_valueAt_b21_e h) trivial
  · rw [if_neg hc] at h
    refine q_ex_br 4 (c := (σ.1 5 0 l0) ≤ l1) (pc1 := 21) (pc2 := 12) (L' := (q_L [(0, .inr (.inr (some (5, l0)))), (1, .inl l1)])) (st' := []) (σ' := σ) (fun _ => rfl) (fun hc => ?_) (fun hc => ?_)
    · rw [if_pos hc] at h
      exact q_ex_ll (Fields_valueAt_b21_e h) trivial
    · rw [if_neg hc] at h
      refine q_by h (fun hz h => ?_)
      refine q_ex_gb 4 (pc' := 18) (L' := (q_L [(0, .inr (.inr (some (5, l0)))), (1, .inl l1)])) (st' := [.inr (.inl (σ.2.2.1 7 l0 l1.toNatClampNeg))]) (σ' := σ) (fun _ => rfl) hz ?_
      refine q_ex_go 1 (pc' := 24) (L' := (q_L [(0, .inr (.inr (some (5, l0)))), (1, .inl l1)])) (st' := [.inr (.inl (σ.2.2.1 7 l0 l1.toNatClampNeg))]) (σ' := σ) (fun _ => rfl) ?_
      exact q_ex_ll (Fields_valueAt_b24_e h) trivial
theorem Fields_valueAt_e {n : Nat} {r0 : (Int64) × J} {x0 : Nat} {x1 : Int32} {σ : J} (h : Fields_valueAt n x0 x1 σ = some r0) : q_ex q_pr n 0 47 0 (q_args 0 [.inr (.inr (some (5, x0))), .inl x1]) [] σ (Fields_valueAt_r r0) := q_ex_ll (Fields_valueAt_b0_e h) ⟨rfl, rfl, trivial⟩
def Fields_kindAt_r : (Int32) × J → Res := fun q => (.inl (some (.inl q.1)), q.2)
-- 46: Fields_kindAt
def Fields_kindAt_b22 (n : Nat) (s0 : Int32) (σ : J) : Option ((Int32) × J) := some (s0, σ)
def Fields_kindAt_b21 (n : Nat) (σ : J) : Option ((Int32) × J) := Fields_kindAt_b22 n (-1) σ
def Fields_kindAt_b0 (n : Nat) (l0 : Nat) (l1 : Int32) (σ : J) : Option ((Int32) × J) := if l1 < 0 then Fields_kindAt_b21 n σ else if (σ.1 5 0 l0) ≤ l1 then Fields_kindAt_b21 n σ else if q_in l1 4 = true then Fields_kindAt_b22 n (σ.2.1 6 l0 l1.toNatClampNeg) σ else none
def Fields_kindAt (n : Nat) (x0 : Nat) (x1 : Int32) (σ : J) : Option ((Int32) × J) := Fields_kindAt_b0 n x0 x1 σ
theorem Fields_kindAt_b22_e {n : Nat} {r0 : (Int32) × J} {s0 : Int32} {σ : J} (h : Fields_kindAt_b22 n s0 σ = some r0) : q_ex q_pr n 0 46 22 (q_L []) [.inl s0] σ (Fields_kindAt_r r0) := by
  unfold Fields_kindAt_b22 at h
  cases h
  exact ⟨1, rfl⟩
theorem Fields_kindAt_b21_e {n : Nat} {r0 : (Int32) × J} {σ : J} (h : Fields_kindAt_b21 n σ = some r0) : q_ex q_pr n 0 46 21 (q_L []) [] σ (Fields_kindAt_r r0) := by
  unfold Fields_kindAt_b21 at h
  refine q_ex_go 1 (pc' := 22) (L' := (q_L [])) (st' := [.inl (-1)]) (σ' := σ) (fun _ => rfl) ?_
  exact q_ex_ll (Fields_kindAt_b22_e h) trivial
theorem Fields_kindAt_b0_e {n : Nat} {r0 : (Int32) × J} {l0 : Nat} {l1 : Int32} {σ : J} (h : Fields_kindAt_b0 n l0 l1 σ = some r0) : q_ex q_pr n 0 46 0 (q_L [(0, .inr (.inr (some (5, l0)))), (1, .inl l1)]) [] σ (Fields_kindAt_r r0) := by
  unfold Fields_kindAt_b0 at h
  refine q_ex_br 2 (c := l1 < 0) (pc1 := 21) (pc2 := 4) (L' := (q_L [(0, .inr (.inr (some (5, l0)))), (1, .inl l1)])) (st' := []) (σ' := σ) (fun _ => rfl) (fun hc => ?_) (fun hc => ?_)
  · rw [if_pos hc] at h
    exact q_ex_ll (Fields_kindAt_b21_e h) trivial
  · rw [if_neg hc] at h
    refine q_ex_br 4 (c := (σ.1 5 0 l0) ≤ l1) (pc1 := 21) (pc2 := 12) (L' := (q_L [(0, .inr (.inr (some (5, l0)))), (1, .inl l1)])) (st' := []) (σ' := σ) (fun _ => rfl) (fun hc => ?_) (fun hc => ?_)
    · rw [if_pos hc] at h
      exact q_ex_ll (Fields_kindAt_b21_e h) trivial
    · rw [if_neg hc] at h
      refine q_by h (fun hz h => ?_)
      refine q_ex_gb 4 (pc' := 18) (L' := (q_L [(0, .inr (.inr (some (5, l0)))), (1, .inl l1)])) (st' := [.inl (σ.2.1 6 l0 l1.toNatClampNeg)]) (σ' := σ) (fun _ => rfl) hz ?_
      refine q_ex_go 1 (pc' := 22) (L' := (q_L [(0, .inr (.inr (some (5, l0)))), (1, .inl l1)])) (st' := [.inl (σ.2.1 6 l0 l1.toNatClampNeg)]) (σ' := σ) (fun _ => rfl) ?_
      exact q_ex_ll (Fields_kindAt_b22_e h) trivial
theorem Fields_kindAt_e {n : Nat} {r0 : (Int32) × J} {x0 : Nat} {x1 : Int32} {σ : J} (h : Fields_kindAt n x0 x1 σ = some r0) : q_ex q_pr n 0 46 0 (q_args 0 [.inr (.inr (some (5, x0))), .inl x1]) [] σ (Fields_kindAt_r r0) := q_ex_ll (Fields_kindAt_b0_e h) ⟨rfl, rfl, trivial⟩
def Order_takeOldest_r : (Int32) × J → Res := fun q => (.inl (some (.inl q.1)), q.2)
-- 60: Order_takeOldest
def Order_takeOldest_b20 (n : Nat) (s0 : Int32) (σ : J) : Option ((Int32) × J) := some (s0, σ)
def Order_takeOldest_b0 (n : Nat) (l0 : Nat) (σ : J) : Option ((Int32) × J) := if (σ.1 18 2 l0) = 0 then if (σ.1 18 3 l0) = 0 then Order_takeOldest_b20 n (-1) σ else Order_takeOldest_b20 n (-2) σ else if q_in 0 5 = true then q_bs (q_sI σ 18 2 l0 ((σ.1 18 2 l0) - 1)) fun σ1 => if q_cpo 1 0 (σ1.1 18 2 l0) 5 5 = true then q_bs (q_sA σ1 19 l0 (va_cpy (σ1.2.1 19 l0) (σ1.2.1 19 l0) (1 : Int32).toNatClampNeg (0 : Int32).toNatClampNeg (σ1.1 18 2 l0).toNatClampNeg)) fun σ2 => some (σ.2.1 19 l0 (0 : Int32).toNatClampNeg, σ2) else none else none
def Order_takeOldest (n : Nat) (x0 : Nat) (σ : J) : Option ((Int32) × J) := Order_takeOldest_b0 n x0 σ
theorem Order_takeOldest_b20_e {n : Nat} {r0 : (Int32) × J} {s0 : Int32} {σ : J} (h : Order_takeOldest_b20 n s0 σ = some r0) : q_ex q_pr n 0 60 20 (q_L []) [.inl s0] σ (Order_takeOldest_r r0) := by
  unfold Order_takeOldest_b20 at h
  cases h
  exact ⟨1, rfl⟩
theorem Order_takeOldest_b0_e {n : Nat} {r0 : (Int32) × J} {l0 : Nat} {σ : J} (h : Order_takeOldest_b0 n l0 σ = some r0) : q_ex q_pr n 0 60 0 (q_L [(0, .inr (.inr (some (18, l0))))]) [] σ (Order_takeOldest_r r0) := by
  unfold Order_takeOldest_b0 at h
  refine q_ex_br 3 (c := (σ.1 18 2 l0) = 0) (pc1 := 7) (pc2 := 21) (L' := (q_L [(0, .inr (.inr (some (18, l0))))])) (st' := []) (σ' := σ) (fun _ => rfl) (fun hc => ?_) (fun hc => ?_)
  · rw [if_pos hc] at h
    refine q_ex_br 3 (c := (σ.1 18 3 l0) = 0) (pc1 := 19) (pc2 := 14) (L' := (q_L [(0, .inr (.inr (some (18, l0))))])) (st' := []) (σ' := σ) (fun _ => rfl) (fun hc => ?_) (fun hc => ?_)
    · rw [if_pos hc] at h
      refine q_ex_go 1 (pc' := 20) (L' := (q_L [(0, .inr (.inr (some (18, l0))))])) (st' := [.inl (-1)]) (σ' := σ) (fun _ => rfl) ?_
      exact q_ex_ll (Order_takeOldest_b20_e h) trivial
    · rw [if_neg hc] at h
      refine q_ex_go 2 (pc' := 20) (L' := (q_L [(0, .inr (.inr (some (18, l0))))])) (st' := [.inl (-2)]) (σ' := σ) (fun _ => rfl) ?_
      exact q_ex_ll (Order_takeOldest_b20_e h) trivial
  · rw [if_neg hc] at h
    refine q_by h (fun hz h => ?_)
    refine q_ex_gb 4 (pc' := 27) (L' := (q_L [(0, .inr (.inr (some (18, l0))))])) (st' := [.inl (σ.2.1 19 l0 (0 : Int32).toNatClampNeg)]) (σ' := σ) (fun _ => rfl) hz ?_
    refine q_ex_go 7 (pc' := 38) (L' := (q_s1 (q_L [(0, .inr (.inr (some (18, l0))))]) 1 (.inl (σ.2.1 19 l0 (0 : Int32).toNatClampNeg)))) (st' := []) (σ' := (q_sI σ 18 2 l0 ((σ.1 18 2 l0) - 1))) (fun _ => rfl) ?_
    refine q_nm (G := fun τ => q_ex q_pr n _ 60 38 (q_s1 (q_L [(0, .inr (.inr (some (18, l0))))]) 1 (.inl (σ.2.1 19 l0 (0 : Int32).toNatClampNeg))) [] τ _) h (fun σ1 h => ?_)
    refine q_by h (fun hz h => ?_)
    refine q_ex_gb 9 (b := q_cpo 1 0 (σ1.1 18 2 l0) 5 5 && true) (pc' := 55) (L' := (q_s1 (q_L [(0, .inr (.inr (some (18, l0))))]) 1 (.inl (σ.2.1 19 l0 (0 : Int32).toNatClampNeg)))) (st' := []) (σ' := (q_sA σ1 19 l0 (va_cpy (σ1.2.1 19 l0) (σ1.2.1 19 l0) (1 : Int32).toNatClampNeg (0 : Int32).toNatClampNeg (σ1.1 18 2 l0).toNatClampNeg))) (fun _ => rfl) (q_bt hz) ?_
    refine q_nm (G := fun τ => q_ex q_pr n _ 60 55 (q_s1 (q_L [(0, .inr (.inr (some (18, l0))))]) 1 (.inl (σ.2.1 19 l0 (0 : Int32).toNatClampNeg))) [] τ _) h (fun σ2 h => ?_)
    refine q_ex_go 1 (pc' := 56) (L' := (q_s1 (q_L [(0, .inr (.inr (some (18, l0))))]) 1 (.inl (σ.2.1 19 l0 (0 : Int32).toNatClampNeg)))) (st' := [.inl (σ.2.1 19 l0 (0 : Int32).toNatClampNeg)]) (σ' := σ2) (fun _ => rfl) ?_
    cases h
    exact ⟨1, rfl⟩
theorem Order_takeOldest_e {n : Nat} {r0 : (Int32) × J} {x0 : Nat} {σ : J} (h : Order_takeOldest n x0 σ = some r0) : q_ex q_pr n 0 60 0 (q_args 0 [.inr (.inr (some (18, x0)))]) [] σ (Order_takeOldest_r r0) := q_ex_ll (Order_takeOldest_b0_e h) ⟨rfl, trivial⟩
def Tuple_putInto_r : J → Res := fun σ => (.inl none, σ)
-- 76: Tuple_putInto
def Tuple_putInto_b0 (n : Nat) (l0 : Nat) (l1 : Int32) (l2 : Int32) (σ : J) : Option (J) := q_bs (q_sI σ 4 3 l0 l1) fun σ1 => q_bs (q_sI σ1 4 4 l0 l2) fun σ2 => some σ2
def Tuple_putInto (n : Nat) (x0 : Nat) (x1 : Int32) (x2 : Int32) (σ : J) : Option (J) := Tuple_putInto_b0 n x0 x1 x2 σ
theorem Tuple_putInto_b0_e {n : Nat} {r0 : J} {l0 : Nat} {l1 : Int32} {l2 : Int32} {σ : J} (h : Tuple_putInto_b0 n l0 l1 l2 σ = some r0) : q_ex q_pr n 0 76 0 (q_L [(0, .inr (.inr (some (4, l0)))), (1, .inl l1), (2, .inl l2)]) [] σ (Tuple_putInto_r r0) := by
  unfold Tuple_putInto_b0 at h
  refine q_ex_go 3 (pc' := 5) (L' := (q_L [(0, .inr (.inr (some (4, l0)))), (1, .inl l1), (2, .inl l2)])) (st' := []) (σ' := (q_sI σ 4 3 l0 l1)) (fun _ => rfl) ?_
  refine q_nm (G := fun τ => q_ex q_pr n _ 76 5 (q_L [(0, .inr (.inr (some (4, l0)))), (1, .inl l1), (2, .inl l2)]) [] τ _) h (fun σ1 h => ?_)
  refine q_ex_go 3 (pc' := 10) (L' := (q_L [(0, .inr (.inr (some (4, l0)))), (1, .inl l1), (2, .inl l2)])) (st' := []) (σ' := (q_sI σ1 4 4 l0 l2)) (fun _ => rfl) ?_
  refine q_nm (G := fun τ => q_ex q_pr n _ 76 10 (q_L [(0, .inr (.inr (some (4, l0)))), (1, .inl l1), (2, .inl l2)]) [] τ _) h (fun σ2 h => ?_)
  cases h
  exact ⟨1, rfl⟩
theorem Tuple_putInto_e {n : Nat} {r0 : J} {x0 : Nat} {x1 : Int32} {x2 : Int32} {σ : J} (h : Tuple_putInto n x0 x1 x2 σ = some r0) : q_ex q_pr n 0 76 0 (q_args 0 [.inr (.inr (some (4, x0))), .inl x1, .inl x2]) [] σ (Tuple_putInto_r r0) := q_ex_ll (Tuple_putInto_b0_e h) ⟨rfl, rfl, rfl, trivial⟩
def Tuple_putOutside_r : J → Res := fun σ => (.inl none, σ)
-- 77: Tuple_putOutside
def Tuple_putOutside_b0 (n : Nat) (l0 : Nat) (σ : J) : Option (J) := (Tuple_putInto n l0 (-1) (-1) σ).bind fun q1 => some q1
def Tuple_putOutside (n : Nat) (x0 : Nat) (σ : J) : Option (J) := Tuple_putOutside_b0 n x0 σ
theorem Tuple_putOutside_b0_e {n : Nat} {r0 : J} {l0 : Nat} {σ : J} (h : Tuple_putOutside_b0 n l0 σ = some r0) : q_ex q_pr n 1 77 0 (q_L [(0, .inr (.inr (some (4, l0))))]) [] σ (Tuple_putOutside_r r0) := by
  unfold Tuple_putOutside_b0 at h
  obtain ⟨q1, hq1, h⟩ := Option.bind_eq_some_iff.mp h
  refine q_ex_ca 4 (k1 := 76) (vs := [.inr (.inr (some (4, l0))), .inl (-1), .inl (-1)]) (pc' := 6) (L' := (q_L [(0, .inr (.inr (some (4, l0))))])) (rest := []) (σ' := σ) (fun _ => rfl) (q_ex_dd (Tuple_putInto_e hq1) (Nat.le_of_ble_eq_true rfl)) rfl ?_
  cases h
  exact ⟨1, rfl⟩
theorem Tuple_putOutside_e {n : Nat} {r0 : J} {x0 : Nat} {σ : J} (h : Tuple_putOutside n x0 σ = some r0) : q_ex q_pr n 1 77 0 (q_args 0 [.inr (.inr (some (4, x0)))]) [] σ (Tuple_putOutside_r r0) := q_ex_ll (Tuple_putOutside_b0_e h) ⟨rfl, trivial⟩
def Order_addReport_r : J → Res := fun σ => (.inl none, σ)
-- 59: Order_addReport
def Order_addReport_b40 (n : Nat) (σ : J) : Option (J) := some σ
def Order_addReport_b13 (n : Nat) (l0 : Nat) (l1 : Int32) (σ : J) : Option (J) := if (σ.1 18 3 l0) = 0 then if q_in (σ.1 18 2 l0) 5 = true then q_bs (q_sA σ 19 l0 (upd (σ.2.1 19 l0) ((σ.1 18 2 l0).toNatClampNeg) l1)) fun σ2 => q_bs (q_sI σ2 18 2 l0 ((σ2.1 18 2 l0) + 1)) fun σ3 => Order_addReport_b40 n σ3 else none else Order_addReport_b40 n σ
def Order_addReport_b0 (n : Nat) (l0 : Nat) (l1 : Int32) (σ : J) : Option (J) := if (σ.1 18 2 l0) < 5 then Order_addReport_b13 n l0 l1 σ else if (1 : Int32) &&& 1 = 1 then q_bs (q_sI σ 18 3 l0 1) fun σ1 => Order_addReport_b13 n l0 l1 σ1 else none
def Order_addReport (n : Nat) (x0 : Nat) (x1 : Int32) (σ : J) : Option (J) := Order_addReport_b0 n x0 x1 σ
theorem Order_addReport_b40_e {n : Nat} {r0 : J} {σ : J} (h : Order_addReport_b40 n σ = some r0) : q_ex q_pr n 0 59 40 (q_L []) [] σ (Order_addReport_r r0) := by
  unfold Order_addReport_b40 at h
  cases h
  exact ⟨1, rfl⟩
theorem Order_addReport_b13_e {n : Nat} {r0 : J} {l0 : Nat} {l1 : Int32} {σ : J} (h : Order_addReport_b13 n l0 l1 σ = some r0) : q_ex q_pr n 0 59 13 (q_L [(0, .inr (.inr (some (18, l0)))), (1, .inl l1)]) [] σ (Order_addReport_r r0) := by
  unfold Order_addReport_b13 at h
  refine q_ex_br 3 (c := (σ.1 18 3 l0) = 0) (pc1 := 20) (pc2 := 40) (L' := (q_L [(0, .inr (.inr (some (18, l0)))), (1, .inl l1)])) (st' := []) (σ' := σ) (fun _ => rfl) (fun hc => ?_) (fun hc => ?_)
  · rw [if_pos hc] at h
    refine q_by h (fun hz h => ?_)
    refine q_ex_gb 6 (pc' := 30) (L' := (q_L [(0, .inr (.inr (some (18, l0)))), (1, .inl l1)])) (st' := []) (σ' := (q_sA σ 19 l0 (upd (σ.2.1 19 l0) ((σ.1 18 2 l0).toNatClampNeg) l1))) (fun _ => rfl) hz ?_
    refine q_nm (G := fun τ => q_ex q_pr n _ 59 30 (q_L [(0, .inr (.inr (some (18, l0)))), (1, .inl l1)]) [] τ _) h (fun σ2 h => ?_)
    refine q_ex_go 6 (pc' := 40) (L' := (q_L [(0, .inr (.inr (some (18, l0)))), (1, .inl l1)])) (st' := []) (σ' := (q_sI σ2 18 2 l0 ((σ2.1 18 2 l0) + 1))) (fun _ => rfl) ?_
    refine q_nm (G := fun τ => q_ex q_pr n _ 59 40 (q_L [(0, .inr (.inr (some (18, l0)))), (1, .inl l1)]) [] τ _) h (fun σ3 h => ?_)
    exact q_ex_ll (Order_addReport_b40_e h) trivial
  · rw [if_neg hc] at h
    exact q_ex_ll (Order_addReport_b40_e h) trivial
theorem Order_addReport_b0_e {n : Nat} {r0 : J} {l0 : Nat} {l1 : Int32} {σ : J} (h : Order_addReport_b0 n l0 l1 σ = some r0) : q_ex q_pr n 0 59 0 (q_L [(0, .inr (.inr (some (18, l0)))), (1, .inl l1)]) [] σ (Order_addReport_r r0) := by
  unfold Order_addReport_b0 at h
  refine q_ex_br 4 (c := (σ.1 18 2 l0) < 5) (pc1 := 13) (pc2 := 8) (L' := (q_L [(0, .inr (.inr (some (18, l0)))), (1, .inl l1)])) (st' := []) (σ' := σ) (fun _ => rfl) (fun hc => ?_) (fun hc => ?_)
  · rw [if_pos hc] at h
    exact q_ex_ll (Order_addReport_b13_e h) ⟨rfl, rfl, trivial⟩
  · rw [if_neg hc] at h
    refine q_by h (fun hz h => ?_)
    refine q_ex_gi 3 (pc' := 13) (L' := (q_L [(0, .inr (.inr (some (18, l0)))), (1, .inl l1)])) (st' := []) (σ' := (q_sI σ 18 3 l0 1)) (fun _ => rfl) hz ?_
    refine q_nm (G := fun τ => q_ex q_pr n _ 59 13 (q_L [(0, .inr (.inr (some (18, l0)))), (1, .inl l1)]) [] τ _) h (fun σ1 h => ?_)
    exact q_ex_ll (Order_addReport_b13_e h) ⟨rfl, rfl, trivial⟩
theorem Order_addReport_e {n : Nat} {r0 : J} {x0 : Nat} {x1 : Int32} {σ : J} (h : Order_addReport n x0 x1 σ = some r0) : q_ex q_pr n 0 59 0 (q_args 0 [.inr (.inr (some (18, x0))), .inl x1]) [] σ (Order_addReport_r r0) := q_ex_ll (Order_addReport_b0_e h) ⟨rfl, rfl, trivial⟩
def Fields_append_r : (Int32) × J → Res := fun q => (.inl (some (.inl q.1)), q.2)
-- 43: Fields_append
def Fields_append_b0 (n : Nat) (l0 : Nat) (l1 : Int32) (l2 : Int64) (σ : J) : Option ((Int32) × J) := if q_in (σ.1 5 0 l0) 4 = true then q_bs (q_sA σ 6 l0 (upd (σ.2.1 6 l0) ((σ.1 5 0 l0).toNatClampNeg) l1)) fun σ1 => if q_in (σ1.1 5 0 l0) 4 = true then q_bs (q_sL σ1 7 l0 (vp_updL (σ1.2.2.1 7 l0) ((σ1.1 5 0 l0).toNatClampNeg) l2)) fun σ2 => q_bs (q_sI σ2 5 0 l0 ((σ2.1 5 0 l0) + 1)) fun σ3 => some (σ3.1 5 0 l0, σ3) else none else none
def Fields_append (n : Nat) (x0 : Nat) (x1 : Int32) (x2 : Int64) (σ : J) : Option ((Int32) × J) := Fields_append_b0 n x0 x1 x2 σ
theorem Fields_append_b0_e {n : Nat} {r0 : (Int32) × J} {l0 : Nat} {l1 : Int32} {l2 : Int64} {σ : J} (h : Fields_append_b0 n l0 l1 l2 σ = some r0) : q_ex q_pr n 0 43 0 (q_L [(0, .inr (.inr (some (5, l0)))), (1, .inl l1), (2, .inr (.inl l2))]) [] σ (Fields_append_r r0) := by
  unfold Fields_append_b0 at h
  refine q_by h (fun hz h => ?_)
  refine q_ex_gb 6 (pc' := 10) (L' := (q_L [(0, .inr (.inr (some (5, l0)))), (1, .inl l1), (2, .inr (.inl l2))])) (st' := []) (σ' := (q_sA σ 6 l0 (upd (σ.2.1 6 l0) ((σ.1 5 0 l0).toNatClampNeg) l1))) (fun _ => rfl) hz ?_
  refine q_nm (G := fun τ => q_ex q_pr n _ 43 10 (q_L [(0, .inr (.inr (some (5, l0)))), (1, .inl l1), (2, .inr (.inl l2))]) [] τ _) h (fun σ1 h => ?_)
  refine q_by h (fun hz h => ?_)
  refine q_ex_gb 6 (pc' := 20) (L' := (q_L [(0, .inr (.inr (some (5, l0)))), (1, .inl l1), (2, .inr (.inl l2))])) (st' := []) (σ' := (q_sL σ1 7 l0 (vp_updL (σ1.2.2.1 7 l0) ((σ1.1 5 0 l0).toNatClampNeg) l2))) (fun _ => rfl) hz ?_
  refine q_nm (G := fun τ => q_ex q_pr n _ 43 20 (q_L [(0, .inr (.inr (some (5, l0)))), (1, .inl l1), (2, .inr (.inl l2))]) [] τ _) h (fun σ2 h => ?_)
  refine q_ex_go 6 (pc' := 30) (L' := (q_L [(0, .inr (.inr (some (5, l0)))), (1, .inl l1), (2, .inr (.inl l2))])) (st' := []) (σ' := (q_sI σ2 5 0 l0 ((σ2.1 5 0 l0) + 1))) (fun _ => rfl) ?_
  refine q_nm (G := fun τ => q_ex q_pr n _ 43 30 (q_L [(0, .inr (.inr (some (5, l0)))), (1, .inl l1), (2, .inr (.inl l2))]) [] τ _) h (fun σ3 h => ?_)
  refine q_ex_go 2 (pc' := 34) (L' := (q_L [(0, .inr (.inr (some (5, l0)))), (1, .inl l1), (2, .inr (.inl l2))])) (st' := [.inl (σ3.1 5 0 l0)]) (σ' := σ3) (fun _ => rfl) ?_
  cases h
  exact ⟨1, rfl⟩
theorem Fields_append_e {n : Nat} {r0 : (Int32) × J} {x0 : Nat} {x1 : Int32} {x2 : Int64} {σ : J} (h : Fields_append n x0 x1 x2 σ = some r0) : q_ex q_pr n 0 43 0 (q_args 0 [.inr (.inr (some (5, x0))), .inl x1, .inr (.inl x2)]) [] σ (Fields_append_r r0) := q_ex_ll (Fields_append_b0_e h) ⟨rfl, rfl, rfl, trivial⟩
def Line_append_r : J → Res := fun σ => (.inl none, σ)
-- 56: Line_append
def Line_append_b0 (n : Nat) (l1 : Int32) (σ : J) : Option (J) := if q_in (σ.1 21 1 0) 4 = true then q_bs (q_sA σ 22 0 (upd (σ.2.1 22 0) ((σ.1 21 1 0).toNatClampNeg) l1)) fun σ1 => q_bs (q_sI σ1 21 1 0 ((σ1.1 21 1 0) + 1)) fun σ2 => some σ2 else none
def Line_append (n : Nat) (x1 : Int32) (σ : J) : Option (J) := Line_append_b0 n x1 σ
theorem Line_append_b0_e {n : Nat} {r0 : J} {l1 : Int32} {σ : J} (h : Line_append_b0 n l1 σ = some r0) : q_ex q_pr n 0 56 0 (q_L [(0, .inr (.inr (some (21, 0)))), (1, .inl l1)]) [] σ (Line_append_r r0) := by
  unfold Line_append_b0 at h
  refine q_by h (fun hz h => ?_)
  refine q_ex_gb 6 (pc' := 10) (L' := (q_L [(0, .inr (.inr (some (21, 0)))), (1, .inl l1)])) (st' := []) (σ' := (q_sA σ 22 0 (upd (σ.2.1 22 0) ((σ.1 21 1 0).toNatClampNeg) l1))) (fun _ => rfl) hz ?_
  refine q_nm (G := fun τ => q_ex q_pr n _ 56 10 (q_L [(0, .inr (.inr (some (21, 0)))), (1, .inl l1)]) [] τ _) h (fun σ1 h => ?_)
  refine q_ex_go 6 (pc' := 20) (L' := (q_L [(0, .inr (.inr (some (21, 0)))), (1, .inl l1)])) (st' := []) (σ' := (q_sI σ1 21 1 0 ((σ1.1 21 1 0) + 1))) (fun _ => rfl) ?_
  refine q_nm (G := fun τ => q_ex q_pr n _ 56 20 (q_L [(0, .inr (.inr (some (21, 0)))), (1, .inl l1)]) [] τ _) h (fun σ2 h => ?_)
  cases h
  exact ⟨1, rfl⟩
theorem Line_append_e {n : Nat} {r0 : J} {x1 : Int32} {σ : J} (h : Line_append n x1 σ = some r0) : q_ex q_pr n 0 56 0 (q_args 0 [.inr (.inr (some (21, 0))), .inl x1]) [] σ (Line_append_r r0) := q_ex_ll (Line_append_b0_e h) ⟨rfl, rfl, trivial⟩
def Fields_empty_r : (Int32) × J → Res := fun q => (.inl (some (.inl q.1)), q.2)
-- 45: Fields_empty
def Fields_empty_b0 (n : Nat) (l0 : Nat) (σ : J) : Option ((Int32) × J) := q_bs (q_sI σ 5 0 l0 0) fun σ1 => some (σ.1 5 0 l0, σ1)
def Fields_empty (n : Nat) (x0 : Nat) (σ : J) : Option ((Int32) × J) := Fields_empty_b0 n x0 σ
theorem Fields_empty_b0_e {n : Nat} {r0 : (Int32) × J} {l0 : Nat} {σ : J} (h : Fields_empty_b0 n l0 σ = some r0) : q_ex q_pr n 0 45 0 (q_L [(0, .inr (.inr (some (5, l0))))]) [] σ (Fields_empty_r r0) := by
  unfold Fields_empty_b0 at h
  refine q_ex_go 6 (pc' := 10) (L' := (q_s1 (q_L [(0, .inr (.inr (some (5, l0))))]) 1 (.inl (σ.1 5 0 l0)))) (st' := []) (σ' := (q_sI σ 5 0 l0 0)) (fun _ => rfl) ?_
  refine q_nm (G := fun τ => q_ex q_pr n _ 45 10 (q_s1 (q_L [(0, .inr (.inr (some (5, l0))))]) 1 (.inl (σ.1 5 0 l0))) [] τ _) h (fun σ1 h => ?_)
  refine q_ex_go 1 (pc' := 11) (L' := (q_s1 (q_L [(0, .inr (.inr (some (5, l0))))]) 1 (.inl (σ.1 5 0 l0)))) (st' := [.inl (σ.1 5 0 l0)]) (σ' := σ1) (fun _ => rfl) ?_
  cases h
  exact ⟨1, rfl⟩
theorem Fields_empty_e {n : Nat} {r0 : (Int32) × J} {x0 : Nat} {σ : J} (h : Fields_empty n x0 σ = some r0) : q_ex q_pr n 0 45 0 (q_args 0 [.inr (.inr (some (5, x0)))]) [] σ (Fields_empty_r r0) := q_ex_ll (Fields_empty_b0_e h) ⟨rfl, trivial⟩
def Finding_isBound_r : (Int32) × J → Res := fun q => (.inl (some (.inl q.1)), q.2)
-- 52: Finding_isBound
def Finding_isBound_b26 (n : Nat) (s0 : Int32) (σ : J) : Option ((Int32) × J) := if s0 &&& 1 = s0 then some (s0, σ) else none
def Finding_isBound_b25 (n : Nat) (σ : J) : Option ((Int32) × J) := Finding_isBound_b26 n 0 σ
def Finding_isBound_b0 (n : Nat) (l0 : Nat) (l1 : Int32) (σ : J) : Option ((Int32) × J) := if l1 < 0 then Finding_isBound_b25 n σ else if 4 ≤ l1 then Finding_isBound_b25 n σ else if (((σ.1 12 1 l0) >>> (l1 &&& 31)) &&& 1) = 1 then Finding_isBound_b26 n 1 σ else Finding_isBound_b25 n σ
def Finding_isBound (n : Nat) (x0 : Nat) (x1 : Int32) (σ : J) : Option ((Int32) × J) := Finding_isBound_b0 n x0 x1 σ
theorem Finding_isBound_b26_e {n : Nat} {r0 : (Int32) × J} {s0 : Int32} {σ : J} (h : Finding_isBound_b26 n s0 σ = some r0) : q_ex q_pr n 0 52 26 (q_L []) [.inl s0] σ (Finding_isBound_r r0) := by
  unfold Finding_isBound_b26 at h
  refine q_by h (fun hz h => ?_)
  cases h
  exact ⟨1, if_pos (e := (none : Option Res)) hz⟩
theorem Finding_isBound_b25_e {n : Nat} {r0 : (Int32) × J} {σ : J} (h : Finding_isBound_b25 n σ = some r0) : q_ex q_pr n 0 52 25 (q_L []) [] σ (Finding_isBound_r r0) := by
  unfold Finding_isBound_b25 at h
  refine q_ex_go 1 (pc' := 26) (L' := (q_L [])) (st' := [.inl 0]) (σ' := σ) (fun _ => rfl) ?_
  exact q_ex_ll (Finding_isBound_b26_e h) trivial
theorem Finding_isBound_b0_e {n : Nat} {r0 : (Int32) × J} {l0 : Nat} {l1 : Int32} {σ : J} (h : Finding_isBound_b0 n l0 l1 σ = some r0) : q_ex q_pr n 0 52 0 (q_L [(0, .inr (.inr (some (12, l0)))), (1, .inl l1)]) [] σ (Finding_isBound_r r0) := by
  unfold Finding_isBound_b0 at h
  refine q_ex_br 2 (c := l1 < 0) (pc1 := 25) (pc2 := 4) (L' := (q_L [(0, .inr (.inr (some (12, l0)))), (1, .inl l1)])) (st' := []) (σ' := σ) (fun _ => rfl) (fun hc => ?_) (fun hc => ?_)
  · rw [if_pos hc] at h
    exact q_ex_ll (Finding_isBound_b25_e h) trivial
  · rw [if_neg hc] at h
    refine q_ex_br 3 (c := 4 ≤ l1) (pc1 := 25) (pc2 := 9) (L' := (q_L [(0, .inr (.inr (some (12, l0)))), (1, .inl l1)])) (st' := []) (σ' := σ) (fun _ => rfl) (fun hc => ?_) (fun hc => ?_)
    · rw [if_pos hc] at h
      exact q_ex_ll (Finding_isBound_b25_e h) trivial
    · rw [if_neg hc] at h
      refine q_ex_br 8 (c := (((σ.1 12 1 l0) >>> (l1 &&& 31)) &&& 1) = 1) (pc1 := 21) (pc2 := 25) (L' := (q_L [(0, .inr (.inr (some (12, l0)))), (1, .inl l1)])) (st' := []) (σ' := σ) (fun _ => rfl) (fun hc => ?_) (fun hc => ?_)
      · rw [if_pos hc] at h
        refine q_ex_go 2 (pc' := 26) (L' := (q_L [(0, .inr (.inr (some (12, l0)))), (1, .inl l1)])) (st' := [.inl 1]) (σ' := σ) (fun _ => rfl) ?_
        exact q_ex_ll (Finding_isBound_b26_e h) trivial
      · rw [if_neg hc] at h
        exact q_ex_ll (Finding_isBound_b25_e h) trivial
theorem Finding_isBound_e {n : Nat} {r0 : (Int32) × J} {x0 : Nat} {x1 : Int32} {σ : J} (h : Finding_isBound n x0 x1 σ = some r0) : q_ex q_pr n 0 52 0 (q_args 0 [.inr (.inr (some (12, x0))), .inl x1]) [] σ (Finding_isBound_r r0) := q_ex_ll (Finding_isBound_b0_e h) ⟨rfl, rfl, trivial⟩
def Finding_kindOf_r : (Int32) × J → Res := fun q => (.inl (some (.inl q.1)), q.2)
-- 53: Finding_kindOf
def Finding_kindOf_b18 (n : Nat) (s0 : Int32) (σ : J) : Option ((Int32) × J) := some (s0, σ)
def Finding_kindOf_b0 (n : Nat) (l0 : Nat) (l1 : Int32) (σ : J) : Option ((Int32) × J) := (Finding_isBound n l0 l1 σ).bind fun q1 => if q1.1 = 0 then Finding_kindOf_b18 n (-1) q1.2 else if q_in l1 4 = true then Finding_kindOf_b18 n (q1.2.2.1 14 l0 l1.toNatClampNeg) q1.2 else none
def Finding_kindOf (n : Nat) (x0 : Nat) (x1 : Int32) (σ : J) : Option ((Int32) × J) := Finding_kindOf_b0 n x0 x1 σ
theorem Finding_kindOf_b18_e {n : Nat} {r0 : (Int32) × J} {s0 : Int32} {σ : J} (h : Finding_kindOf_b18 n s0 σ = some r0) : q_ex q_pr n 1 53 18 (q_L []) [.inl s0] σ (Finding_kindOf_r r0) := by
  unfold Finding_kindOf_b18 at h
  cases h
  exact ⟨1, rfl⟩
theorem Finding_kindOf_b0_e {n : Nat} {r0 : (Int32) × J} {l0 : Nat} {l1 : Int32} {σ : J} (h : Finding_kindOf_b0 n l0 l1 σ = some r0) : q_ex q_pr n 1 53 0 (q_L [(0, .inr (.inr (some (12, l0)))), (1, .inl l1)]) [] σ (Finding_kindOf_r r0) := by
  unfold Finding_kindOf_b0 at h
  obtain ⟨q1, hq1, h⟩ := Option.bind_eq_some_iff.mp h
  refine q_ex_ca 3 (k1 := 52) (vs := [.inr (.inr (some (12, l0))), .inl l1]) (pc' := 5) (L' := (q_L [(0, .inr (.inr (some (12, l0)))), (1, .inl l1)])) (rest := []) (σ' := σ) (fun _ => rfl) (q_ex_dd (Finding_isBound_e hq1) (Nat.le_of_ble_eq_true rfl)) rfl ?_
  refine q_ex_br 1 (c := q1.1 = 0) (pc1 := 17) (pc2 := 8) (L' := (q_L [(0, .inr (.inr (some (12, l0)))), (1, .inl l1)])) (st' := []) (σ' := q1.2) (fun _ => rfl) (fun hc => ?_) (fun hc => ?_)
  · rw [if_pos hc] at h
    refine q_ex_go 1 (pc' := 18) (L' := (q_L [(0, .inr (.inr (some (12, l0)))), (1, .inl l1)])) (st' := [.inl (-1)]) (σ' := q1.2) (fun _ => rfl) ?_
    exact q_ex_ll (Finding_kindOf_b18_e h) trivial
  · rw [if_neg hc] at h
    refine q_by h (fun hz h => ?_)
    refine q_ex_gb 4 (pc' := 14) (L' := (q_L [(0, .inr (.inr (some (12, l0)))), (1, .inl l1)])) (st' := [.inl (q1.2.2.1 14 l0 l1.toNatClampNeg)]) (σ' := q1.2) (fun _ => rfl) hz ?_
    refine q_ex_go 1 (pc' := 18) (L' := (q_L [(0, .inr (.inr (some (12, l0)))), (1, .inl l1)])) (st' := [.inl (q1.2.2.1 14 l0 l1.toNatClampNeg)]) (σ' := q1.2) (fun _ => rfl) ?_
    exact q_ex_ll (Finding_kindOf_b18_e h) trivial
theorem Finding_kindOf_e {n : Nat} {r0 : (Int32) × J} {x0 : Nat} {x1 : Int32} {σ : J} (h : Finding_kindOf n x0 x1 σ = some r0) : q_ex q_pr n 1 53 0 (q_args 0 [.inr (.inr (some (12, x0))), .inl x1]) [] σ (Finding_kindOf_r r0) := q_ex_ll (Finding_kindOf_b0_e h) ⟨rfl, rfl, trivial⟩
def Finding_valueOf_r : (Int64) × J → Res := fun q => (.inl (some (.inr (.inl q.1))), q.2)
-- 55: Finding_valueOf
def Finding_valueOf_b18 (n : Nat) (s0 : Int64) (σ : J) : Option ((Int64) × J) := some (s0, σ)
def Finding_valueOf_b0 (n : Nat) (l0 : Nat) (l1 : Int32) (σ : J) : Option ((Int64) × J) := (Finding_isBound n l0 l1 σ).bind fun q1 => if q1.1 = 0 then Finding_valueOf_b18 n 0 q1.2 else if q_in l1 4 = true then Finding_valueOf_b18 n (q1.2.2.2.1 15 l0 l1.toNatClampNeg) q1.2 else none
def Finding_valueOf (n : Nat) (x0 : Nat) (x1 : Int32) (σ : J) : Option ((Int64) × J) := Finding_valueOf_b0 n x0 x1 σ
theorem Finding_valueOf_b18_e {n : Nat} {r0 : (Int64) × J} {s0 : Int64} {σ : J} (h : Finding_valueOf_b18 n s0 σ = some r0) : q_ex q_pr n 1 55 18 (q_L []) [.inr (.inl s0)] σ (Finding_valueOf_r r0) := by
  unfold Finding_valueOf_b18 at h
  cases h
  exact ⟨1, rfl⟩
theorem Finding_valueOf_b0_e {n : Nat} {r0 : (Int64) × J} {l0 : Nat} {l1 : Int32} {σ : J} (h : Finding_valueOf_b0 n l0 l1 σ = some r0) : q_ex q_pr n 1 55 0 (q_L [(0, .inr (.inr (some (12, l0)))), (1, .inl l1)]) [] σ (Finding_valueOf_r r0) := by
  unfold Finding_valueOf_b0 at h
  obtain ⟨q1, hq1, h⟩ := Option.bind_eq_some_iff.mp h
  refine q_ex_ca 3 (k1 := 52) (vs := [.inr (.inr (some (12, l0))), .inl l1]) (pc' := 5) (L' := (q_L [(0, .inr (.inr (some (12, l0)))), (1, .inl l1)])) (rest := []) (σ' := σ) (fun _ => rfl) (q_ex_dd (Finding_isBound_e hq1) (Nat.le_of_ble_eq_true rfl)) rfl ?_
  refine q_ex_br 1 (c := q1.1 = 0) (pc1 := 17) (pc2 := 8) (L' := (q_L [(0, .inr (.inr (some (12, l0)))), (1, .inl l1)])) (st' := []) (σ' := q1.2) (fun _ => rfl) (fun hc => ?_) (fun hc => ?_)
  · rw [if_pos hc] at h
    refine q_ex_go 1 (pc' := 18) (L' := (q_L [(0, .inr (.inr (some (12, l0)))), (1, .inl l1)])) (st' := [.inr (.inl 0)]) (σ' := q1.2) (fun _ => rfl) ?_
    exact q_ex_ll (Finding_valueOf_b18_e h) trivial
  · rw [if_neg hc] at h
    refine q_by h (fun hz h => ?_)
    refine q_ex_gb 4 (pc' := 14) (L' := (q_L [(0, .inr (.inr (some (12, l0)))), (1, .inl l1)])) (st' := [.inr (.inl (q1.2.2.2.1 15 l0 l1.toNatClampNeg))]) (σ' := q1.2) (fun _ => rfl) hz ?_
    refine q_ex_go 1 (pc' := 18) (L' := (q_L [(0, .inr (.inr (some (12, l0)))), (1, .inl l1)])) (st' := [.inr (.inl (q1.2.2.2.1 15 l0 l1.toNatClampNeg))]) (σ' := q1.2) (fun _ => rfl) ?_
    exact q_ex_ll (Finding_valueOf_b18_e h) trivial
theorem Finding_valueOf_e {n : Nat} {r0 : (Int64) × J} {x0 : Nat} {x1 : Int32} {σ : J} (h : Finding_valueOf n x0 x1 σ = some r0) : q_ex q_pr n 1 55 0 (q_args 0 [.inr (.inr (some (12, x0))), .inl x1]) [] σ (Finding_valueOf_r r0) := q_ex_ll (Finding_valueOf_b0_e h) ⟨rfl, rfl, trivial⟩
def Fields_copyFrom_r : J → Res := fun σ => (.inl none, σ)
-- 44: Fields_copyFrom
def Fields_copyFrom_b0 (n : Nat) (l0 : Nat) (l1 : Nat) (σ : J) : Option (J) := q_bs (q_sI σ 5 0 l0 (σ.1 5 0 l1)) fun σ1 => if q_cpo 0 0 4 4 4 = true then q_bs (q_sA σ1 6 l0 (va_cpy (σ1.2.1 6 l1) (σ1.2.1 6 l0) (0 : Int32).toNatClampNeg (0 : Int32).toNatClampNeg (4 : Int32).toNatClampNeg)) fun σ2 => if q_cpo 0 0 4 4 4 = true then q_bs (q_sL σ2 7 l0 (va_cpy (σ2.2.2.1 7 l1) (σ2.2.2.1 7 l0) (0 : Int32).toNatClampNeg (0 : Int32).toNatClampNeg (4 : Int32).toNatClampNeg)) fun σ3 => some σ3 else none else none
def Fields_copyFrom (n : Nat) (x0 : Nat) (x1 : Nat) (σ : J) : Option (J) := Fields_copyFrom_b0 n x0 x1 σ
theorem Fields_copyFrom_b0_e {n : Nat} {r0 : J} {l0 : Nat} {l1 : Nat} {σ : J} (h : Fields_copyFrom_b0 n l0 l1 σ = some r0) : q_ex q_pr n 0 44 0 (q_L [(0, .inr (.inr (some (5, l0)))), (1, .inr (.inr (some (5, l1))))]) [] σ (Fields_copyFrom_r r0) := by
  unfold Fields_copyFrom_b0 at h
  refine q_ex_go 4 (pc' := 8) (L' := (q_L [(0, .inr (.inr (some (5, l0)))), (1, .inr (.inr (some (5, l1))))])) (st' := []) (σ' := (q_sI σ 5 0 l0 (σ.1 5 0 l1))) (fun _ => rfl) ?_
  refine q_nm (G := fun τ => q_ex q_pr n _ 44 8 (q_L [(0, .inr (.inr (some (5, l0)))), (1, .inr (.inr (some (5, l1))))]) [] τ _) h (fun σ1 h => ?_)
  refine q_by h (fun hz h => ?_)
  refine q_ex_gb 8 (b := q_cpo 0 0 4 4 4 && true) (pc' := 22) (L' := (q_L [(0, .inr (.inr (some (5, l0)))), (1, .inr (.inr (some (5, l1))))])) (st' := []) (σ' := (q_sA σ1 6 l0 (va_cpy (σ1.2.1 6 l1) (σ1.2.1 6 l0) (0 : Int32).toNatClampNeg (0 : Int32).toNatClampNeg (4 : Int32).toNatClampNeg))) (fun _ => rfl) (q_bt hz) ?_
  refine q_nm (G := fun τ => q_ex q_pr n _ 44 22 (q_L [(0, .inr (.inr (some (5, l0)))), (1, .inr (.inr (some (5, l1))))]) [] τ _) h (fun σ2 h => ?_)
  refine q_by h (fun hz h => ?_)
  refine q_ex_gb 8 (b := q_cpo 0 0 4 4 4 && true) (pc' := 36) (L' := (q_L [(0, .inr (.inr (some (5, l0)))), (1, .inr (.inr (some (5, l1))))])) (st' := []) (σ' := (q_sL σ2 7 l0 (va_cpy (σ2.2.2.1 7 l1) (σ2.2.2.1 7 l0) (0 : Int32).toNatClampNeg (0 : Int32).toNatClampNeg (4 : Int32).toNatClampNeg))) (fun _ => rfl) (q_bt hz) ?_
  refine q_nm (G := fun τ => q_ex q_pr n _ 44 36 (q_L [(0, .inr (.inr (some (5, l0)))), (1, .inr (.inr (some (5, l1))))]) [] τ _) h (fun σ3 h => ?_)
  cases h
  exact ⟨1, rfl⟩
theorem Fields_copyFrom_e {n : Nat} {r0 : J} {x0 : Nat} {x1 : Nat} {σ : J} (h : Fields_copyFrom n x0 x1 σ = some r0) : q_ex q_pr n 0 44 0 (q_args 0 [.inr (.inr (some (5, x0))), .inr (.inr (some (5, x1)))]) [] σ (Fields_copyFrom_r r0) := q_ex_ll (Fields_copyFrom_b0_e h) ⟨rfl, rfl, trivial⟩
def Tuple_begin_r : J → Res := fun σ => (.inl none, σ)
-- 69: Tuple_begin
def Tuple_begin_b0 (n : Nat) (l0 : Nat) (l1 : Int32) (l2 : Nat) (l3 : Int32) (σ : J) : Option (J) := if (1 : Int32) &&& 1 = 1 then q_bs (q_sI σ 4 0 l0 1) fun σ1 => q_bs (q_sI σ1 4 1 l0 l1) fun σ2 => q_bs (q_sI σ2 4 2 l0 l3) fun σ3 => (Fields_copyFrom n l0 l2 σ3).bind fun q4 => (Tuple_putOutside n l0 q4).bind fun q5 => (Tuple_giveBack n l0 q5).bind fun q6 => some q6 else none
def Tuple_begin (n : Nat) (x0 : Nat) (x1 : Int32) (x2 : Nat) (x3 : Int32) (σ : J) : Option (J) := Tuple_begin_b0 n x0 x1 x2 x3 σ
theorem Tuple_begin_b0_e {n : Nat} {r0 : J} {l0 : Nat} {l1 : Int32} {l2 : Nat} {l3 : Int32} {σ : J} (h : Tuple_begin_b0 n l0 l1 l2 l3 σ = some r0) : q_ex q_pr n 2 69 0 (q_L [(0, .inr (.inr (some (4, l0)))), (1, .inl l1), (2, .inr (.inr (some (5, l2)))), (3, .inl l3)]) [] σ (Tuple_begin_r r0) := by
  unfold Tuple_begin_b0 at h
  refine q_by h (fun hz h => ?_)
  refine q_ex_gi 3 (pc' := 5) (L' := (q_L [(0, .inr (.inr (some (4, l0)))), (1, .inl l1), (2, .inr (.inr (some (5, l2)))), (3, .inl l3)])) (st' := []) (σ' := (q_sI σ 4 0 l0 1)) (fun _ => rfl) hz ?_
  refine q_nm (G := fun τ => q_ex q_pr n _ 69 5 (q_L [(0, .inr (.inr (some (4, l0)))), (1, .inl l1), (2, .inr (.inr (some (5, l2)))), (3, .inl l3)]) [] τ _) h (fun σ1 h => ?_)
  refine q_ex_go 3 (pc' := 10) (L' := (q_L [(0, .inr (.inr (some (4, l0)))), (1, .inl l1), (2, .inr (.inr (some (5, l2)))), (3, .inl l3)])) (st' := []) (σ' := (q_sI σ1 4 1 l0 l1)) (fun _ => rfl) ?_
  refine q_nm (G := fun τ => q_ex q_pr n _ 69 10 (q_L [(0, .inr (.inr (some (4, l0)))), (1, .inl l1), (2, .inr (.inr (some (5, l2)))), (3, .inl l3)]) [] τ _) h (fun σ2 h => ?_)
  refine q_ex_go 3 (pc' := 15) (L' := (q_L [(0, .inr (.inr (some (4, l0)))), (1, .inl l1), (2, .inr (.inr (some (5, l2)))), (3, .inl l3)])) (st' := []) (σ' := (q_sI σ2 4 2 l0 l3)) (fun _ => rfl) ?_
  refine q_nm (G := fun τ => q_ex q_pr n _ 69 15 (q_L [(0, .inr (.inr (some (4, l0)))), (1, .inl l1), (2, .inr (.inr (some (5, l2)))), (3, .inl l3)]) [] τ _) h (fun σ3 h => ?_)
  obtain ⟨q4, hq4, h⟩ := Option.bind_eq_some_iff.mp h
  refine q_ex_ca 4 (k1 := 44) (vs := [.inr (.inr (some (5, l0))), .inr (.inr (some (5, l2)))]) (pc' := 23) (L' := (q_L [(0, .inr (.inr (some (4, l0)))), (1, .inl l1), (2, .inr (.inr (some (5, l2)))), (3, .inl l3)])) (rest := []) (σ' := σ3) (fun _ => rfl) (q_ex_dd (Fields_copyFrom_e hq4) (Nat.le_of_ble_eq_true rfl)) rfl ?_
  obtain ⟨q5, hq5, h⟩ := Option.bind_eq_some_iff.mp h
  refine q_ex_ca 2 (k1 := 77) (vs := [.inr (.inr (some (4, l0)))]) (pc' := 27) (L' := (q_L [(0, .inr (.inr (some (4, l0)))), (1, .inl l1), (2, .inr (.inr (some (5, l2)))), (3, .inl l3)])) (rest := []) (σ' := q4) (fun _ => rfl) (q_ex_dd (Tuple_putOutside_e hq5) (Nat.le_of_ble_eq_true rfl)) rfl ?_
  obtain ⟨q6, hq6, h⟩ := Option.bind_eq_some_iff.mp h
  refine q_ex_ca 2 (k1 := 70) (vs := [.inr (.inr (some (4, l0)))]) (pc' := 31) (L' := (q_L [(0, .inr (.inr (some (4, l0)))), (1, .inl l1), (2, .inr (.inr (some (5, l2)))), (3, .inl l3)])) (rest := []) (σ' := q5) (fun _ => rfl) (q_ex_dd (Tuple_giveBack_e hq6) (Nat.le_of_ble_eq_true rfl)) rfl ?_
  cases h
  exact ⟨1, rfl⟩
theorem Tuple_begin_e {n : Nat} {r0 : J} {x0 : Nat} {x1 : Int32} {x2 : Nat} {x3 : Int32} {σ : J} (h : Tuple_begin n x0 x1 x2 x3 σ = some r0) : q_ex q_pr n 2 69 0 (q_args 0 [.inr (.inr (some (4, x0))), .inl x1, .inr (.inr (some (5, x2))), .inl x3]) [] σ (Tuple_begin_r r0) := q_ex_ll (Tuple_begin_b0_e h) ⟨rfl, rfl, rfl, rfl, trivial⟩
def Tuple_isOverAt_r : (Int32) × J → Res := fun q => (.inl (some (.inl q.1)), q.2)
-- 71: Tuple_isOverAt
def Tuple_isOverAt_b20 (n : Nat) (s0 : Int32) (σ : J) : Option ((Int32) × J) := if s0 &&& 1 = s0 then some (s0, σ) else none
def Tuple_isOverAt_b19 (n : Nat) (σ : J) : Option ((Int32) × J) := Tuple_isOverAt_b20 n 0 σ
def Tuple_isOverAt_b0 (n : Nat) (l0 : Nat) (l1 : Int32) (σ : J) : Option ((Int32) × J) := if (σ.1 4 2 l0) = 0 then Tuple_isOverAt_b19 n σ else if l1 < (σ.1 4 2 l0) then Tuple_isOverAt_b19 n σ else Tuple_isOverAt_b20 n 1 σ
def Tuple_isOverAt (n : Nat) (x0 : Nat) (x1 : Int32) (σ : J) : Option ((Int32) × J) := Tuple_isOverAt_b0 n x0 x1 σ
theorem Tuple_isOverAt_b20_e {n : Nat} {r0 : (Int32) × J} {s0 : Int32} {σ : J} (h : Tuple_isOverAt_b20 n s0 σ = some r0) : q_ex q_pr n 0 71 20 (q_L []) [.inl s0] σ (Tuple_isOverAt_r r0) := by
  unfold Tuple_isOverAt_b20 at h
  refine q_by h (fun hz h => ?_)
  cases h
  exact ⟨1, if_pos (e := (none : Option Res)) hz⟩
theorem Tuple_isOverAt_b19_e {n : Nat} {r0 : (Int32) × J} {σ : J} (h : Tuple_isOverAt_b19 n σ = some r0) : q_ex q_pr n 0 71 19 (q_L []) [] σ (Tuple_isOverAt_r r0) := by
  unfold Tuple_isOverAt_b19 at h
  refine q_ex_go 1 (pc' := 20) (L' := (q_L [])) (st' := [.inl 0]) (σ' := σ) (fun _ => rfl) ?_
  exact q_ex_ll (Tuple_isOverAt_b20_e h) trivial
theorem Tuple_isOverAt_b0_e {n : Nat} {r0 : (Int32) × J} {l0 : Nat} {l1 : Int32} {σ : J} (h : Tuple_isOverAt_b0 n l0 l1 σ = some r0) : q_ex q_pr n 0 71 0 (q_L [(0, .inr (.inr (some (4, l0)))), (1, .inl l1)]) [] σ (Tuple_isOverAt_r r0) := by
  unfold Tuple_isOverAt_b0 at h
  refine q_ex_br 3 (c := (σ.1 4 2 l0) = 0) (pc1 := 19) (pc2 := 7) (L' := (q_L [(0, .inr (.inr (some (4, l0)))), (1, .inl l1)])) (st' := []) (σ' := σ) (fun _ => rfl) (fun hc => ?_) (fun hc => ?_)
  · rw [if_pos hc] at h
    exact q_ex_ll (Tuple_isOverAt_b19_e h) trivial
  · rw [if_neg hc] at h
    refine q_ex_br 4 (c := l1 < (σ.1 4 2 l0)) (pc1 := 19) (pc2 := 15) (L' := (q_L [(0, .inr (.inr (some (4, l0)))), (1, .inl l1)])) (st' := []) (σ' := σ) (fun _ => rfl) (fun hc => ?_) (fun hc => ?_)
    · rw [if_pos hc] at h
      exact q_ex_ll (Tuple_isOverAt_b19_e h) trivial
    · rw [if_neg hc] at h
      refine q_ex_go 2 (pc' := 20) (L' := (q_L [(0, .inr (.inr (some (4, l0)))), (1, .inl l1)])) (st' := [.inl 1]) (σ' := σ) (fun _ => rfl) ?_
      exact q_ex_ll (Tuple_isOverAt_b20_e h) trivial
theorem Tuple_isOverAt_e {n : Nat} {r0 : (Int32) × J} {x0 : Nat} {x1 : Int32} {σ : J} (h : Tuple_isOverAt n x0 x1 σ = some r0) : q_ex q_pr n 0 71 0 (q_args 0 [.inr (.inr (some (4, x0))), .inl x1]) [] σ (Tuple_isOverAt_r r0) := q_ex_ll (Tuple_isOverAt_b0_e h) ⟨rfl, rfl, trivial⟩
