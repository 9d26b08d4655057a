/-! Functions of methods, and their runs. Ours, written by fun.py -/
def Board_countInDeal_r : (Int32) × J → Res := fun q => (.inl (some (.inl q.1)), q.2)
-- 38: Board_countInDeal
def Board_countInDeal_b47 (n : Nat) (k5 : Int32 → Int32 → Int32 → Int32 → J → Option ((Int32) × J)) (f : Nat) (l1 : Int32) (l2 : Int32) (l3 : Int32) (l4 : Int32) (σ : J) : Option ((Int32) × J) := k5 l1 l2 l3 (l4 + 1) σ
def Board_countInDeal_b44 (n : Nat) (k5 : Int32 → Int32 → Int32 → Int32 → J → Option ((Int32) × J)) (f : Nat) (l1 : Int32) (l2 : Int32) (l3 : Int32) (l4 : Int32) (σ : J) : Option ((Int32) × J) := Board_countInDeal_b47 n k5 f l1 l2 (l3 + 1) l4 σ
def Board_countInDeal_b5 (n : Nat) (k5 : Int32 → Int32 → Int32 → Int32 → J → Option ((Int32) × J)) (f : Nat) (l1 : Int32) (l2 : Int32) (l3 : Int32) (l4 : Int32) (σ : J) : Option ((Int32) × J) := if (σ.1 2 1 0) ≤ l4 then some (l3, σ) else if q_in l4 20 = true then if Nat.blt (σ.2.2.2 3 0 l4.toNatClampNeg) 20 = true then (Tuple_isPutIn n (σ.2.2.2 3 0 l4.toNatClampNeg) l1 l2 σ).bind fun q1 => if q1.1 = 0 then if q_in l4 20 = true then if Nat.blt (q1.2.2.2.2 3 0 l4.toNatClampNeg) 20 = true then (Tuple_isTakenBy n (q1.2.2.2.2 3 0 l4.toNatClampNeg) l1 l2 q1.2).bind fun q2 => if q2.1 = 0 then Board_countInDeal_b47 n k5 f l1 l2 l3 l4 q2.2 else Board_countInDeal_b44 n k5 f l1 l2 l3 l4 q2.2 else none else none else Board_countInDeal_b44 n k5 f l1 l2 l3 l4 q1.2 else none else none
def Board_countInDeal_L5 (n : Nat) : Nat → Int32 → Int32 → Int32 → Int32 → J → Option ((Int32) × J)
  | 0 => fun _ _ _ _ _ => none
  | f + 1 => fun l1 l2 l3 l4 σ => Board_countInDeal_b5 n (Board_countInDeal_L5 n f) f l1 l2 l3 l4 σ
def Board_countInDeal_b0 (n : Nat) (f : Nat) (l1 : Int32) (l2 : Int32) (σ : J) : Option ((Int32) × J) := Board_countInDeal_L5 n f l1 l2 0 0 σ
def Board_countInDeal (n : Nat) (f : Nat) (x1 : Int32) (x2 : Int32) (σ : J) : Option ((Int32) × J) := Board_countInDeal_b0 n f x1 x2 σ
theorem Board_countInDeal_b47_e {n : Nat} {r0 : (Int32) × J} {k5 : Int32 → Int32 → Int32 → Int32 → J → Option ((Int32) × J)} {f : Nat} {l1 : Int32} {l2 : Int32} {l3 : Int32} {l4 : Int32} {σ : J} (hk5 : ∀ {l1 : Int32} {l2 : Int32} {l3 : Int32} {l4 : Int32} {σ : J}, k5 l1 l2 l3 l4 σ = some r0 → q_ex q_pr n 1 38 5 (q_L [(0, .inr (.inr (some (2, 0)))), (1, .inl l1), (2, .inl l2), (3, .inl l3), (4, .inl l4)]) [] σ (Board_countInDeal_r r0)) (h : Board_countInDeal_b47 n k5 f l1 l2 l3 l4 σ = some r0) : q_ex q_pr n 1 38 47 (q_L [(0, .inr (.inr (some (2, 0)))), (1, .inl l1), (2, .inl l2), (3, .inl l3), (4, .inl l4)]) [] σ (Board_countInDeal_r r0) := by
  unfold Board_countInDeal_b47 at h
  refine q_ex_go 2 (pc' := 5) (L' := (q_s1 (q_L [(0, .inr (.inr (some (2, 0)))), (1, .inl l1), (2, .inl l2), (3, .inl l3), (4, .inl l4)]) 4 (.inl (l4 + 1)))) (st' := []) (σ' := σ) (fun _ => rfl) ?_
  exact q_ex_ll (hk5 h) ⟨rfl, rfl, rfl, rfl, rfl, trivial⟩
theorem Board_countInDeal_b44_e {n : Nat} {r0 : (Int32) × J} {k5 : Int32 → Int32 → Int32 → Int32 → J → Option ((Int32) × J)} {f : Nat} {l1 : Int32} {l2 : Int32} {l3 : Int32} {l4 : Int32} {σ : J} (hk5 : ∀ {l1 : Int32} {l2 : Int32} {l3 : Int32} {l4 : Int32} {σ : J}, k5 l1 l2 l3 l4 σ = some r0 → q_ex q_pr n 1 38 5 (q_L [(0, .inr (.inr (some (2, 0)))), (1, .inl l1), (2, .inl l2), (3, .inl l3), (4, .inl l4)]) [] σ (Board_countInDeal_r r0)) (h : Board_countInDeal_b44 n k5 f l1 l2 l3 l4 σ = some r0) : q_ex q_pr n 1 38 44 (q_L [(0, .inr (.inr (some (2, 0)))), (1, .inl l1), (2, .inl l2), (3, .inl l3), (4, .inl l4)]) [] σ (Board_countInDeal_r r0) := by
  unfold Board_countInDeal_b44 at h
  refine q_ex_go 1 (pc' := 47) (L' := (q_s1 (q_L [(0, .inr (.inr (some (2, 0)))), (1, .inl l1), (2, .inl l2), (3, .inl l3), (4, .inl l4)]) 3 (.inl (l3 + 1)))) (st' := []) (σ' := σ) (fun _ => rfl) ?_
  exact q_ex_ll (Board_countInDeal_b47_e hk5 h) ⟨rfl, rfl, rfl, rfl, rfl, trivial⟩
theorem Board_countInDeal_b5_e {n : Nat} {r0 : (Int32) × J} {k5 : Int32 → Int32 → Int32 → Int32 → J → Option ((Int32) × J)} {f : Nat} {l1 : Int32} {l2 : Int32} {l3 : Int32} {l4 : Int32} {σ : J} (hk5 : ∀ {l1 : Int32} {l2 : Int32} {l3 : Int32} {l4 : Int32} {σ : J}, k5 l1 l2 l3 l4 σ = some r0 → q_ex q_pr n 1 38 5 (q_L [(0, .inr (.inr (some (2, 0)))), (1, .inl l1), (2, .inl l2), (3, .inl l3), (4, .inl l4)]) [] σ (Board_countInDeal_r r0)) (h : Board_countInDeal_b5 n k5 f l1 l2 l3 l4 σ = some r0) : q_ex q_pr n 1 38 5 (q_L [(0, .inr (.inr (some (2, 0)))), (1, .inl l1), (2, .inl l2), (3, .inl l3), (4, .inl l4)]) [] σ (Board_countInDeal_r r0) := by
  unfold Board_countInDeal_b5 at h
  refine q_ex_br 4 (c := (σ.1 2 1 0) ≤ l4) (pc1 := 53) (pc2 := 14) (L' := (q_L [(0, .inr (.inr (some (2, 0)))), (1, .inl l1), (2, .inl l2), (3, .inl l3), (4, .inl l4)])) (st' := []) (σ' := σ) (fun _ => rfl) (fun hc => ?_) (fun hc => ?_)
  · rw [if_pos hc] at h
    refine q_ex_go 1 (pc' := 54) (L' := (q_L [(0, .inr (.inr (some (2, 0)))), (1, .inl l1), (2, .inl l2), (3, .inl l3), (4, .inl l4)])) (st' := [.inl l3]) (σ' := σ) (fun _ => rfl) ?_
    cases h
    exact ⟨1, rfl⟩
  · rw [if_neg hc] at h
    refine q_by h (fun hz h => ?_)
    refine q_by h (fun hy h => ?_)
    refine q_ex_g2 4 (pc' := 21) (L' := (q_L [(0, .inr (.inr (some (2, 0)))), (1, .inl l1), (2, .inl l2), (3, .inl l3), (4, .inl l4)])) (st' := [.inr (.inr (some (4, σ.2.2.2 3 0 l4.toNatClampNeg)))]) (σ' := σ) (fun _ => rfl) hz hy ?_
    obtain ⟨q1, hq1, h⟩ := Option.bind_eq_some_iff.mp h
    refine q_ex_ca 3 (k1 := 72) (vs := [.inr (.inr (some (4, σ.2.2.2 3 0 l4.toNatClampNeg))), .inl l1, .inl l2]) (pc' := 26) (L' := (q_L [(0, .inr (.inr (some (2, 0)))), (1, .inl l1), (2, .inl l2), (3, .inl l3), (4, .inl l4)])) (rest := []) (σ' := σ) (fun _ => rfl) (q_ex_dd (Tuple_isPutIn_e hq1) (Nat.le_of_ble_eq_true rfl)) rfl ?_
    refine q_ex_br 1 (c := q1.1 = 0) (pc1 := 29) (pc2 := 44) (L' := (q_L [(0, .inr (.inr (some (2, 0)))), (1, .inl l1), (2, .inl l2), (3, .inl l3), (4, .inl l4)])) (st' := []) (σ' := q1.2) (fun _ => rfl) (fun hc => ?_) (fun hc => ?_)
    · rw [if_pos hc] at h
      refine q_by h (fun hz h => ?_)
      refine q_by h (fun hy h => ?_)
      refine q_ex_g2 4 (pc' := 36) (L' := (q_L [(0, .inr (.inr (some (2, 0)))), (1, .inl l1), (2, .inl l2), (3, .inl l3), (4, .inl l4)])) (st' := [.inr (.inr (some (4, q1.2.2.2.2 3 0 l4.toNatClampNeg)))]) (σ' := q1.2) (fun _ => rfl) hz hy ?_
      obtain ⟨q2, hq2, h⟩ := Option.bind_eq_some_iff.mp h
      refine q_ex_ca 3 (k1 := 75) (vs := [.inr (.inr (some (4, q1.2.2.2.2 3 0 l4.toNatClampNeg))), .inl l1, .inl l2]) (pc' := 41) (L' := (q_L [(0, .inr (.inr (some (2, 0)))), (1, .inl l1), (2, .inl l2), (3, .inl l3), (4, .inl l4)])) (rest := []) (σ' := q1.2) (fun _ => rfl) (q_ex_dd (Tuple_isTakenBy_e hq2) (Nat.le_of_ble_eq_true rfl)) rfl ?_
      refine q_ex_br 1 (c := q2.1 = 0) (pc1 := 47) (pc2 := 44) (L' := (q_L [(0, .inr (.inr (some (2, 0)))), (1, .inl l1), (2, .inl l2), (3, .inl l3), (4, .inl l4)])) (st' := []) (σ' := q2.2) (fun _ => rfl) (fun hc => ?_) (fun hc => ?_)
      · rw [if_pos hc] at h
        exact q_ex_ll (Board_countInDeal_b47_e hk5 h) ⟨rfl, rfl, rfl, rfl, rfl, trivial⟩
      · rw [if_neg hc] at h
        exact q_ex_ll (Board_countInDeal_b44_e hk5 h) ⟨rfl, rfl, rfl, rfl, rfl, trivial⟩
    · rw [if_neg hc] at h
      exact q_ex_ll (Board_countInDeal_b44_e hk5 h) ⟨rfl, rfl, rfl, rfl, rfl, trivial⟩
theorem Board_countInDeal_L5_e {n : Nat} {r0 : (Int32) × J} (f : Nat) : ∀ {l1 : Int32} {l2 : Int32} {l3 : Int32} {l4 : Int32} {σ : J}, Board_countInDeal_L5 n f l1 l2 l3 l4 σ = some r0 → q_ex q_pr n 1 38 5 (q_L [(0, .inr (.inr (some (2, 0)))), (1, .inl l1), (2, .inl l2), (3, .inl l3), (4, .inl l4)]) [] σ (Board_countInDeal_r r0) := by
  induction f with
  | zero => intro l1 l2 l3 l4 σ h; cases h
  | succ f ih =>
    intro l1 l2 l3 l4 σ h
    exact Board_countInDeal_b5_e (f := f) (fun h => ih h) h
theorem Board_countInDeal_b0_e {n : Nat} {r0 : (Int32) × J} {f : Nat} {l1 : Int32} {l2 : Int32} {σ : J} (h : Board_countInDeal_b0 n f l1 l2 σ = some r0) : q_ex q_pr n 1 38 0 (q_L [(0, .inr (.inr (some (2, 0)))), (1, .inl l1), (2, .inl l2)]) [] σ (Board_countInDeal_r r0) := by
  unfold Board_countInDeal_b0 at h
  refine q_ex_go 4 (pc' := 5) (L' := (q_s1 (q_s1 (q_L [(0, .inr (.inr (some (2, 0)))), (1, .inl l1), (2, .inl l2)]) 3 (.inl 0)) 4 (.inl 0))) (st' := []) (σ' := σ) (fun _ => rfl) ?_
  exact q_ex_ll (Board_countInDeal_L5_e f h) ⟨rfl, rfl, rfl, rfl, rfl, trivial⟩
theorem Board_countInDeal_e {n : Nat} {r0 : (Int32) × J} {f : Nat} {x1 : Int32} {x2 : Int32} {σ : J} (h : Board_countInDeal n f x1 x2 σ = some r0) : q_ex q_pr n 1 38 0 (q_args 0 [.inr (.inr (some (2, 0))), .inl x1, .inl x2]) [] σ (Board_countInDeal_r r0) := q_ex_ll (Board_countInDeal_b0_e h) ⟨rfl, rfl, rfl, trivial⟩
def Board_undo_r : (Int32) × J → Res := fun q => (.inl (some (.inl q.1)), q.2)
-- 42: Board_undo
def Board_undo_b59 (n : Nat) (k5 : Int32 → Int32 → Int32 → Int32 → J → Option ((Int32) × J)) (f : Nat) (l1 : Int32) (l2 : Int32) (l3 : Int32) (l4 : Int32) (σ : J) : Option ((Int32) × J) := k5 l1 l2 l3 (l4 + 1) σ
def Board_undo_b5 (n : Nat) (k5 : Int32 → Int32 → Int32 → Int32 → J → Option ((Int32) × J)) (f : Nat) (l1 : Int32) (l2 : Int32) (l3 : Int32) (l4 : Int32) (σ : J) : Option ((Int32) × J) := if (σ.1 2 1 0) ≤ l4 then if l3 &&& 1 = l3 then some (l3, σ) else none else if q_in l4 20 = true then if Nat.blt (σ.2.2.2 3 0 l4.toNatClampNeg) 20 = true then (Tuple_isPutIn n (σ.2.2.2 3 0 l4.toNatClampNeg) l1 l2 σ).bind fun q1 => if q1.1 = 0 then (Tuple_isTakenBy n (σ.2.2.2 3 0 l4.toNatClampNeg) l1 l2 q1.2).bind fun q2 => if q2.1 = 0 then Board_undo_b59 n k5 f l1 l2 l3 l4 q2.2 else (Tuple_giveBack n (σ.2.2.2 3 0 l4.toNatClampNeg) q2.2).bind fun q3 => Board_undo_b59 n k5 f l1 l2 1 l4 q3 else if (0 : Int32) &&& 1 = 0 then q_bs (q_sI q1.2 4 0 (σ.2.2.2 3 0 l4.toNatClampNeg) 0) fun σ4 => Board_undo_b59 n k5 f l1 l2 l3 l4 σ4 else none else none else none
def Board_undo_L5 (n : Nat) : Nat → Int32 → Int32 → Int32 → Int32 → J → Option ((Int32) × J)
  | 0 => fun _ _ _ _ _ => none
  | f + 1 => fun l1 l2 l3 l4 σ => Board_undo_b5 n (Board_undo_L5 n f) f l1 l2 l3 l4 σ
def Board_undo_b0 (n : Nat) (f : Nat) (l1 : Int32) (l2 : Int32) (σ : J) : Option ((Int32) × J) := Board_undo_L5 n f l1 l2 0 0 σ
def Board_undo (n : Nat) (f : Nat) (x1 : Int32) (x2 : Int32) (σ : J) : Option ((Int32) × J) := Board_undo_b0 n f x1 x2 σ
theorem Board_undo_b59_e {n : Nat} {r0 : (Int32) × J} {k5 : Int32 → Int32 → Int32 → Int32 → J → Option ((Int32) × J)} {f : Nat} {l1 : Int32} {l2 : Int32} {l3 : Int32} {l4 : Int32} {σ : J} (hk5 : ∀ {l1 : Int32} {l2 : Int32} {l3 : Int32} {l4 : Int32} {σ : J}, k5 l1 l2 l3 l4 σ = some r0 → q_ex q_pr n 1 42 5 (q_L [(0, .inr (.inr (some (2, 0)))), (1, .inl l1), (2, .inl l2), (3, .inl l3), (4, .inl l4)]) [] σ (Board_undo_r r0)) (h : Board_undo_b59 n k5 f l1 l2 l3 l4 σ = some r0) : q_ex q_pr n 1 42 59 (q_L [(0, .inr (.inr (some (2, 0)))), (1, .inl l1), (2, .inl l2), (3, .inl l3), (4, .inl l4)]) [] σ (Board_undo_r r0) := by
  unfold Board_undo_b59 at h
  refine q_ex_go 2 (pc' := 5) (L' := (q_s1 (q_L [(0, .inr (.inr (some (2, 0)))), (1, .inl l1), (2, .inl l2), (3, .inl l3), (4, .inl l4)]) 4 (.inl (l4 + 1)))) (st' := []) (σ' := σ) (fun _ => rfl) ?_
  exact q_ex_ll (hk5 h) ⟨rfl, rfl, rfl, rfl, rfl, trivial⟩
theorem Board_undo_b5_e {n : Nat} {r0 : (Int32) × J} {k5 : Int32 → Int32 → Int32 → Int32 → J → Option ((Int32) × J)} {f : Nat} {l1 : Int32} {l2 : Int32} {l3 : Int32} {l4 : Int32} {σ : J} (hk5 : ∀ {l1 : Int32} {l2 : Int32} {l3 : Int32} {l4 : Int32} {σ : J}, k5 l1 l2 l3 l4 σ = some r0 → q_ex q_pr n 1 42 5 (q_L [(0, .inr (.inr (some (2, 0)))), (1, .inl l1), (2, .inl l2), (3, .inl l3), (4, .inl l4)]) [] σ (Board_undo_r r0)) (h : Board_undo_b5 n k5 f l1 l2 l3 l4 σ = some r0) : q_ex q_pr n 1 42 5 (q_L [(0, .inr (.inr (some (2, 0)))), (1, .inl l1), (2, .inl l2), (3, .inl l3), (4, .inl l4)]) [] σ (Board_undo_r r0) := by
  unfold Board_undo_b5 at h
  refine q_ex_br 4 (c := (σ.1 2 1 0) ≤ l4) (pc1 := 65) (pc2 := 14) (L' := (q_L [(0, .inr (.inr (some (2, 0)))), (1, .inl l1), (2, .inl l2), (3, .inl l3), (4, .inl l4)])) (st' := []) (σ' := σ) (fun _ => rfl) (fun hc => ?_) (fun hc => ?_)
  · rw [if_pos hc] at h
    refine q_ex_go 1 (pc' := 66) (L' := (q_L [(0, .inr (.inr (some (2, 0)))), (1, .inl l1), (2, .inl l2), (3, .inl l3), (4, .inl l4)])) (st' := [.inl l3]) (σ' := σ) (fun _ => rfl) ?_
    refine q_by h (fun hz h => ?_)
    cases h
    exact ⟨1, if_pos (e := (none : Option Res)) hz⟩
  · rw [if_neg hc] at h
    refine q_by h (fun hz h => ?_)
    refine q_by h (fun hy h => ?_)
    refine q_ex_g2 4 (pc' := 21) (L' := (q_L [(0, .inr (.inr (some (2, 0)))), (1, .inl l1), (2, .inl l2), (3, .inl l3), (4, .inl l4)])) (st' := [.inr (.inr (some (4, σ.2.2.2 3 0 l4.toNatClampNeg)))]) (σ' := σ) (fun _ => rfl) hz hy ?_
    obtain ⟨q1, hq1, h⟩ := Option.bind_eq_some_iff.mp h
    refine q_ex_ca 5 (k1 := 72) (vs := [.inr (.inr (some (4, σ.2.2.2 3 0 l4.toNatClampNeg))), .inl l1, .inl l2]) (pc' := 30) (L' := (q_s1 (q_L [(0, .inr (.inr (some (2, 0)))), (1, .inl l1), (2, .inl l2), (3, .inl l3), (4, .inl l4)]) 5 (.inr (.inr (some (4, σ.2.2.2 3 0 l4.toNatClampNeg)))))) (rest := []) (σ' := σ) (fun _ => rfl) (q_ex_dd (Tuple_isPutIn_e hq1) (Nat.le_of_ble_eq_true rfl)) rfl ?_
    refine q_ex_br 1 (c := q1.1 = 0) (pc1 := 42) (pc2 := 33) (L' := (q_s1 (q_L [(0, .inr (.inr (some (2, 0)))), (1, .inl l1), (2, .inl l2), (3, .inl l3), (4, .inl l4)]) 5 (.inr (.inr (some (4, σ.2.2.2 3 0 l4.toNatClampNeg)))))) (st' := []) (σ' := q1.2) (fun _ => rfl) (fun hc => ?_) (fun hc => ?_)
    · rw [if_pos hc] at h
      obtain ⟨q2, hq2, h⟩ := Option.bind_eq_some_iff.mp h
      refine q_ex_ca 4 (k1 := 75) (vs := [.inr (.inr (some (4, σ.2.2.2 3 0 l4.toNatClampNeg))), .inl l1, .inl l2]) (pc' := 49) (L' := (q_s1 (q_L [(0, .inr (.inr (some (2, 0)))), (1, .inl l1), (2, .inl l2), (3, .inl l3), (4, .inl l4)]) 5 (.inr (.inr (some (4, σ.2.2.2 3 0 l4.toNatClampNeg)))))) (rest := []) (σ' := q1.2) (fun _ => rfl) (q_ex_dd (Tuple_isTakenBy_e hq2) (Nat.le_of_ble_eq_true rfl)) rfl ?_
      refine q_ex_br 1 (c := q2.1 = 0) (pc1 := 59) (pc2 := 52) (L' := (q_s1 (q_L [(0, .inr (.inr (some (2, 0)))), (1, .inl l1), (2, .inl l2), (3, .inl l3), (4, .inl l4)]) 5 (.inr (.inr (some (4, σ.2.2.2 3 0 l4.toNatClampNeg)))))) (st' := []) (σ' := q2.2) (fun _ => rfl) (fun hc => ?_) (fun hc => ?_)
      · rw [if_pos hc] at h
        exact q_ex_ll (Board_undo_b59_e hk5 h) ⟨rfl, rfl, rfl, rfl, rfl, trivial⟩
      · rw [if_neg hc] at h
        obtain ⟨q3, hq3, h⟩ := Option.bind_eq_some_iff.mp h
        refine q_ex_ca 2 (k1 := 70) (vs := [.inr (.inr (some (4, σ.2.2.2 3 0 l4.toNatClampNeg)))]) (pc' := 57) (L' := (q_s1 (q_L [(0, .inr (.inr (some (2, 0)))), (1, .inl l1), (2, .inl l2), (3, .inl l3), (4, .inl l4)]) 5 (.inr (.inr (some (4, σ.2.2.2 3 0 l4.toNatClampNeg)))))) (rest := []) (σ' := q2.2) (fun _ => rfl) (q_ex_dd (Tuple_giveBack_e hq3) (Nat.le_of_ble_eq_true rfl)) rfl ?_
        refine q_ex_go 2 (pc' := 59) (L' := (q_s1 (q_s1 (q_L [(0, .inr (.inr (some (2, 0)))), (1, .inl l1), (2, .inl l2), (3, .inl l3), (4, .inl l4)]) 5 (.inr (.inr (some (4, σ.2.2.2 3 0 l4.toNatClampNeg))))) 3 (.inl 1))) (st' := []) (σ' := q3) (fun _ => rfl) ?_
        exact q_ex_ll (Board_undo_b59_e hk5 h) ⟨rfl, rfl, rfl, rfl, rfl, trivial⟩
    · rw [if_neg hc] at h
      refine q_by h (fun hz h => ?_)
      refine q_ex_gi 3 (pc' := 39) (L' := (q_s1 (q_L [(0, .inr (.inr (some (2, 0)))), (1, .inl l1), (2, .inl l2), (3, .inl l3), (4, .inl l4)]) 5 (.inr (.inr (some (4, σ.2.2.2 3 0 l4.toNatClampNeg)))))) (st' := []) (σ' := (q_sI q1.2 4 0 (σ.2.2.2 3 0 l4.toNatClampNeg) 0)) (fun _ => rfl) hz ?_
      refine q_nm (G := fun τ => q_ex q_pr n _ 42 39 (q_s1 (q_L [(0, .inr (.inr (some (2, 0)))), (1, .inl l1), (2, .inl l2), (3, .inl l3), (4, .inl l4)]) 5 (.inr (.inr (some (4, σ.2.2.2 3 0 l4.toNatClampNeg))))) [] τ _) h (fun σ4 h => ?_)
      refine q_ex_go 1 (pc' := 59) (L' := (q_s1 (q_L [(0, .inr (.inr (some (2, 0)))), (1, .inl l1), (2, .inl l2), (3, .inl l3), (4, .inl l4)]) 5 (.inr (.inr (some (4, σ.2.2.2 3 0 l4.toNatClampNeg)))))) (st' := []) (σ' := σ4) (fun _ => rfl) ?_
      exact q_ex_ll (Board_undo_b59_e hk5 h) ⟨rfl, rfl, rfl, rfl, rfl, trivial⟩
theorem Board_undo_L5_e {n : Nat} {r0 : (Int32) × J} (f : Nat) : ∀ {l1 : Int32} {l2 : Int32} {l3 : Int32} {l4 : Int32} {σ : J}, Board_undo_L5 n f l1 l2 l3 l4 σ = some r0 → q_ex q_pr n 1 42 5 (q_L [(0, .inr (.inr (some (2, 0)))), (1, .inl l1), (2, .inl l2), (3, .inl l3), (4, .inl l4)]) [] σ (Board_undo_r r0) := by
  induction f with
  | zero => intro l1 l2 l3 l4 σ h; cases h
  | succ f ih =>
    intro l1 l2 l3 l4 σ h
    exact Board_undo_b5_e (f := f) (fun h => ih h) h
theorem Board_undo_b0_e {n : Nat} {r0 : (Int32) × J} {f : Nat} {l1 : Int32} {l2 : Int32} {σ : J} (h : Board_undo_b0 n f l1 l2 σ = some r0) : q_ex q_pr n 1 42 0 (q_L [(0, .inr (.inr (some (2, 0)))), (1, .inl l1), (2, .inl l2)]) [] σ (Board_undo_r r0) := by
  unfold Board_undo_b0 at h
  refine q_ex_go 4 (pc' := 5) (L' := (q_s1 (q_s1 (q_L [(0, .inr (.inr (some (2, 0)))), (1, .inl l1), (2, .inl l2)]) 3 (.inl 0)) 4 (.inl 0))) (st' := []) (σ' := σ) (fun _ => rfl) ?_
  exact q_ex_ll (Board_undo_L5_e f h) ⟨rfl, rfl, rfl, rfl, rfl, trivial⟩
theorem Board_undo_e {n : Nat} {r0 : (Int32) × J} {f : Nat} {x1 : Int32} {x2 : Int32} {σ : J} (h : Board_undo n f x1 x2 σ = some r0) : q_ex q_pr n 1 42 0 (q_args 0 [.inr (.inr (some (2, 0))), .inl x1, .inl x2]) [] σ (Board_undo_r r0) := q_ex_ll (Board_undo_b0_e h) ⟨rfl, rfl, rfl, trivial⟩
def Pattern_holds_r : (Int32) × J → Res := fun q => (.inl (some (.inl q.1)), q.2)
-- 65: Pattern_holds
def Pattern_holds_b85 (n : Nat) (s0 : Int32) (σ : J) : Option ((Int32) × J) := if s0 &&& 1 = s0 then some (s0, σ) else none
def Pattern_holds_b106 (n : Nat) (s0 : Int32) (σ : J) : Option ((Int32) × J) := if s0 &&& 1 = s0 then some (s0, σ) else none
def Pattern_holds_b105 (n : Nat) (σ : J) : Option ((Int32) × J) := Pattern_holds_b106 n 0 σ
def Pattern_holds_b127 (n : Nat) (s0 : Int32) (σ : J) : Option ((Int32) × J) := if s0 &&& 1 = s0 then some (s0, σ) else none
def Pattern_holds_b122 (n : Nat) (σ : J) : Option ((Int32) × J) := Pattern_holds_b127 n 1 σ
def Pattern_holds_b144 (n : Nat) (s0 : Int32) (σ : J) : Option ((Int32) × J) := if s0 &&& 1 = s0 then some (s0, σ) else none
def Pattern_holds_b143 (n : Nat) (σ : J) : Option ((Int32) × J) := Pattern_holds_b144 n 0 σ
def Pattern_holds_b161 (n : Nat) (s0 : Int32) (σ : J) : Option ((Int32) × J) := if s0 &&& 1 = s0 then some (s0, σ) else none
def Pattern_holds_b160 (n : Nat) (σ : J) : Option ((Int32) × J) := Pattern_holds_b161 n 0 σ
def Pattern_holds_b185 (n : Nat) (s0 : Int32) (σ : J) : Option ((Int32) × J) := if s0 &&& 1 = s0 then some (s0, σ) else none
def Pattern_holds_b184 (n : Nat) (σ : J) : Option ((Int32) × J) := Pattern_holds_b185 n 0 σ
def Pattern_holds_b229 (n : Nat) (s0 : Int32) (σ : J) : Option ((Int32) × J) := if s0 &&& 1 = s0 then some (s0, σ) else none
def Pattern_holds_b228 (n : Nat) (σ : J) : Option ((Int32) × J) := Pattern_holds_b229 n 0 σ
def Pattern_holds_b269 (n : Nat) (s0 : Int32) (σ : J) : Option ((Int32) × J) := if s0 &&& 1 = s0 then some (s0, σ) else none
def Pattern_holds_b268 (n : Nat) (σ : J) : Option ((Int32) × J) := Pattern_holds_b269 n 0 σ
def Pattern_holds_b0 (n : Nat) (l0 : Nat) (l1 : Int32) (l2 : Int32) (l3 : Int64) (l5 : Nat) (σ : J) : Option ((Int32) × J) := if q_in l1 4 = true then if q_in l1 4 = true then if q_in l1 4 = true then if (σ.2.1 9 l0 l1.toNatClampNeg) = Int32.ofNat 1 then if (lg_cmp l2.toInt64 (σ.2.2.1 10 l0 l1.toNatClampNeg)) = 0 then Pattern_holds_b85 n 1 σ else Pattern_holds_b85 n 0 σ else if (σ.2.1 9 l0 l1.toNatClampNeg) = Int32.ofNat 2 then if (lg_cmp l2.toInt64 (σ.2.2.1 10 l0 l1.toNatClampNeg)) = 0 then if (lg_cmp l3 (σ.2.2.1 11 l0 l1.toNatClampNeg)) = 0 then Pattern_holds_b106 n 1 σ else Pattern_holds_b105 n σ else Pattern_holds_b105 n σ else if (σ.2.1 9 l0 l1.toNatClampNeg) = Int32.ofNat 3 then if (lg_cmp l2.toInt64 (σ.2.2.1 10 l0 l1.toNatClampNeg)) = 0 then if (lg_cmp l3 (σ.2.2.1 11 l0 l1.toNatClampNeg)) = 0 then Pattern_holds_b127 n 0 σ else Pattern_holds_b122 n σ else Pattern_holds_b122 n σ else if (σ.2.1 9 l0 l1.toNatClampNeg) = Int32.ofNat 4 then if l2 = 0 then if 0 ≤ (lg_cmp l3 (σ.2.2.1 11 l0 l1.toNatClampNeg)) then Pattern_holds_b143 n σ else Pattern_holds_b144 n 1 σ else Pattern_holds_b143 n σ else if (σ.2.1 9 l0 l1.toNatClampNeg) = Int32.ofNat 5 then if l2 = 0 then if (lg_cmp l3 (σ.2.2.1 11 l0 l1.toNatClampNeg)) ≤ 0 then Pattern_holds_b160 n σ else Pattern_holds_b161 n 1 σ else Pattern_holds_b160 n σ else if (σ.2.1 9 l0 l1.toNatClampNeg) = Int32.ofNat 6 then if l2 = 0 then if (lg_cmp l3 (σ.2.2.1 10 l0 l1.toNatClampNeg)) < 0 then Pattern_holds_b184 n σ else if 0 < (lg_cmp l3 (σ.2.2.1 11 l0 l1.toNatClampNeg)) then Pattern_holds_b184 n σ else Pattern_holds_b185 n 1 σ else Pattern_holds_b184 n σ else if (σ.2.1 9 l0 l1.toNatClampNeg) = Int32.ofNat 7 then (Finding_bindOrCompare n l5 ((σ.2.2.1 10 l0 l1.toNatClampNeg).toInt32) l2 l3 σ).bind fun q1 => if q1.1 &&& 1 = q1.1 then some (q1.1, q1.2) else none else if (σ.2.1 9 l0 l1.toNatClampNeg) = Int32.ofNat 8 then if l2 = 2 then if (lg_cmp l3 (-1)) = 0 then Pattern_holds_b228 n σ else (Finding_numberFor n l5 ((σ.2.2.1 10 l0 l1.toNatClampNeg).toInt32) σ).bind fun q2 => if (lg_cmp l3 q2.1.toInt64) = 0 then Pattern_holds_b229 n 1 q2.2 else Pattern_holds_b228 n q2.2 else Pattern_holds_b228 n σ else if (σ.2.1 9 l0 l1.toNatClampNeg) = Int32.ofNat 9 then if (lg_cmp l2.toInt64 (σ.2.2.1 10 l0 l1.toNatClampNeg)) = 0 then if (lg_cmp l3 0) < 0 then Pattern_holds_b268 n σ else if 0 < (lg_cmp l3 63) then Pattern_holds_b268 n σ else if (lg_cmp ((((σ.2.2.1 11 l0 l1.toNatClampNeg).toUInt64 >>> (l3.toInt32.toInt64.toUInt64 &&& Int64.toUInt64 63)).toInt64) &&& 1) 1) = 0 then Pattern_holds_b269 n 1 σ else Pattern_holds_b268 n σ else Pattern_holds_b268 n σ else if (1 : Int32) &&& 1 = 1 then some (1, σ) else none else none else none else none
def Pattern_holds (n : Nat) (x0 : Nat) (x1 : Int32) (x2 : Int32) (x3 : Int64) (x5 : Nat) (σ : J) : Option ((Int32) × J) := Pattern_holds_b0 n x0 x1 x2 x3 x5 σ
theorem Pattern_holds_b85_e {n : Nat} {r0 : (Int32) × J} {s0 : Int32} {σ : J} (h : Pattern_holds_b85 n s0 σ = some r0) : q_ex q_pr n 1 65 85 (q_L []) [.inl s0] σ (Pattern_holds_r r0) := by
  unfold Pattern_holds_b85 at h
  refine q_by h (fun hz h => ?_)
  cases h
  exact ⟨1, if_pos (e := (none : Option Res)) hz⟩
theorem Pattern_holds_b106_e {n : Nat} {r0 : (Int32) × J} {s0 : Int32} {σ : J} (h : Pattern_holds_b106 n s0 σ = some r0) : q_ex q_pr n 1 65 106 (q_L []) [.inl s0] σ (Pattern_holds_r r0) := by
  unfold Pattern_holds_b106 at h
  refine q_by h (fun hz h => ?_)
  cases h
  exact ⟨1, if_pos (e := (none : Option Res)) hz⟩
theorem Pattern_holds_b105_e {n : Nat} {r0 : (Int32) × J} {σ : J} (h : Pattern_holds_b105 n σ = some r0) : q_ex q_pr n 1 65 105 (q_L []) [] σ (Pattern_holds_r r0) := by
  unfold Pattern_holds_b105 at h
  refine q_ex_go 1 (pc' := 106) (L' := (q_L [])) (st' := [.inl 0]) (σ' := σ) (fun _ => rfl) ?_
  exact q_ex_ll (Pattern_holds_b106_e h) trivial
theorem Pattern_holds_b127_e {n : Nat} {r0 : (Int32) × J} {s0 : Int32} {σ : J} (h : Pattern_holds_b127 n s0 σ = some r0) : q_ex q_pr n 1 65 127 (q_L []) [.inl s0] σ (Pattern_holds_r r0) := by
  unfold Pattern_holds_b127 at h
  refine q_by h (fun hz h => ?_)
  cases h
  exact ⟨1, if_pos (e := (none : Option Res)) hz⟩
theorem Pattern_holds_b122_e {n : Nat} {r0 : (Int32) × J} {σ : J} (h : Pattern_holds_b122 n σ = some r0) : q_ex q_pr n 1 65 122 (q_L []) [] σ (Pattern_holds_r r0) := by
  unfold Pattern_holds_b122 at h
  refine q_ex_go 2 (pc' := 127) (L' := (q_L [])) (st' := [.inl 1]) (σ' := σ) (fun _ => rfl) ?_
  exact q_ex_ll (Pattern_holds_b127_e h) trivial
theorem Pattern_holds_b144_e {n : Nat} {r0 : (Int32) × J} {s0 : Int32} {σ : J} (h : Pattern_holds_b144 n s0 σ = some r0) : q_ex q_pr n 1 65 144 (q_L []) [.inl s0] σ (Pattern_holds_r r0) := by
  unfold Pattern_holds_b144 at h
  refine q_by h (fun hz h => ?_)
  cases h
  exact ⟨1, if_pos (e := (none : Option Res)) hz⟩
theorem Pattern_holds_b143_e {n : Nat} {r0 : (Int32) × J} {σ : J} (h : Pattern_holds_b143 n σ = some r0) : q_ex q_pr n 1 65 143 (q_L []) [] σ (Pattern_holds_r r0) := by
  unfold Pattern_holds_b143 at h
  refine q_ex_go 1 (pc' := 144) (L' := (q_L [])) (st' := [.inl 0]) (σ' := σ) (fun _ => rfl) ?_
  exact q_ex_ll (Pattern_holds_b144_e h) trivial
theorem Pattern_holds_b161_e {n : Nat} {r0 : (Int32) × J} {s0 : Int32} {σ : J} (h : Pattern_holds_b161 n s0 σ = some r0) : q_ex q_pr n 1 65 161 (q_L []) [.inl s0] σ (Pattern_holds_r r0) := by
  unfold Pattern_holds_b161 at h
  refine q_by h (fun hz h => ?_)
  cases h
  exact ⟨1, if_pos (e := (none : Option Res)) hz⟩
theorem Pattern_holds_b160_e {n : Nat} {r0 : (Int32) × J} {σ : J} (h : Pattern_holds_b160 n σ = some r0) : q_ex q_pr n 1 65 160 (q_L []) [] σ (Pattern_holds_r r0) := by
  unfold Pattern_holds_b160 at h
  refine q_ex_go 1 (pc' := 161) (L' := (q_L [])) (st' := [.inl 0]) (σ' := σ) (fun _ => rfl) ?_
  exact q_ex_ll (Pattern_holds_b161_e h) trivial
theorem Pattern_holds_b185_e {n : Nat} {r0 : (Int32) × J} {s0 : Int32} {σ : J} (h : Pattern_holds_b185 n s0 σ = some r0) : q_ex q_pr n 1 65 185 (q_L []) [.inl s0] σ (Pattern_holds_r r0) := by
  unfold Pattern_holds_b185 at h
  refine q_by h (fun hz h => ?_)
  cases h
  exact ⟨1, if_pos (e := (none : Option Res)) hz⟩
theorem Pattern_holds_b184_e {n : Nat} {r0 : (Int32) × J} {σ : J} (h : Pattern_holds_b184 n σ = some r0) : q_ex q_pr n 1 65 184 (q_L []) [] σ (Pattern_holds_r r0) := by
  unfold Pattern_holds_b184 at h
  refine q_ex_go 1 (pc' := 185) (L' := (q_L [])) (st' := [.inl 0]) (σ' := σ) (fun _ => rfl) ?_
  exact q_ex_ll (Pattern_holds_b185_e h) trivial
theorem Pattern_holds_b229_e {n : Nat} {r0 : (Int32) × J} {s0 : Int32} {σ : J} (h : Pattern_holds_b229 n s0 σ = some r0) : q_ex q_pr n 1 65 229 (q_L []) [.inl s0] σ (Pattern_holds_r r0) := by
  unfold Pattern_holds_b229 at h
  refine q_by h (fun hz h => ?_)
  cases h
  exact ⟨1, if_pos (e := (none : Option Res)) hz⟩
theorem Pattern_holds_b228_e {n : Nat} {r0 : (Int32) × J} {σ : J} (h : Pattern_holds_b228 n σ = some r0) : q_ex q_pr n 1 65 228 (q_L []) [] σ (Pattern_holds_r r0) := by
  unfold Pattern_holds_b228 at h
  refine q_ex_go 1 (pc' := 229) (L' := (q_L [])) (st' := [.inl 0]) (σ' := σ) (fun _ => rfl) ?_
  exact q_ex_ll (Pattern_holds_b229_e h) trivial
theorem Pattern_holds_b269_e {n : Nat} {r0 : (Int32) × J} {s0 : Int32} {σ : J} (h : Pattern_holds_b269 n s0 σ = some r0) : q_ex q_pr n 1 65 269 (q_L []) [.inl s0] σ (Pattern_holds_r r0) := by
  unfold Pattern_holds_b269 at h
  refine q_by h (fun hz h => ?_)
  cases h
  exact ⟨1, if_pos (e := (none : Option Res)) hz⟩
theorem Pattern_holds_b268_e {n : Nat} {r0 : (Int32) × J} {σ : J} (h : Pattern_holds_b268 n σ = some r0) : q_ex q_pr n 1 65 268 (q_L []) [] σ (Pattern_holds_r r0) := by
  unfold Pattern_holds_b268 at h
  refine q_ex_go 1 (pc' := 269) (L' := (q_L [])) (st' := [.inl 0]) (σ' := σ) (fun _ => rfl) ?_
  exact q_ex_ll (Pattern_holds_b269_e h) trivial
theorem Pattern_holds_b0_e {n : Nat} {r0 : (Int32) × J} {l0 : Nat} {l1 : Int32} {l2 : Int32} {l3 : Int64} {l5 : Nat} {σ : J} (h : Pattern_holds_b0 n l0 l1 l2 l3 l5 σ = some r0) : q_ex q_pr n 1 65 0 (q_L [(0, .inr (.inr (some (8, l0)))), (1, .inl l1), (2, .inl l2), (3, .inr (.inl l3)), (5, .inr (.inr (some (12, l5))))]) [] σ (Pattern_holds_r r0) := by
  unfold Pattern_holds_b0 at h
  refine q_by h (fun hz h => ?_)
  refine q_ex_gb 4 (pc' := 6) (L' := (q_L [(0, .inr (.inr (some (8, l0)))), (1, .inl l1), (2, .inl l2), (3, .inr (.inl l3)), (5, .inr (.inr (some (12, l5))))])) (st' := [.inr (.inl (σ.2.2.1 10 l0 l1.toNatClampNeg))]) (σ' := σ) (fun _ => rfl) hz ?_
  refine q_by h (fun hz h => ?_)
  refine q_ex_gb 5 (pc' := 14) (L' := (q_s2 (q_L [(0, .inr (.inr (some (8, l0)))), (1, .inl l1), (2, .inl l2), (3, .inr (.inl l3)), (5, .inr (.inr (some (12, l5))))]) 6 (.inr (.inl (σ.2.2.1 10 l0 l1.toNatClampNeg))))) (st' := [.inr (.inl (σ.2.2.1 11 l0 l1.toNatClampNeg))]) (σ' := σ) (fun _ => rfl) hz ?_
  refine q_by h (fun hz h => ?_)
  refine q_ex_gb 5 (pc' := 22) (L' := (q_s2 (q_s2 (q_L [(0, .inr (.inr (some (8, l0)))), (1, .inl l1), (2, .inl l2), (3, .inr (.inl l3)), (5, .inr (.inr (some (12, l5))))]) 6 (.inr (.inl (σ.2.2.1 10 l0 l1.toNatClampNeg)))) 8 (.inr (.inl (σ.2.2.1 11 l0 l1.toNatClampNeg))))) (st' := [.inl (σ.2.1 9 l0 l1.toNatClampNeg)]) (σ' := σ) (fun _ => rfl) hz ?_
  refine q_ex_sw 1 (x := (σ.2.1 9 l0 l1.toNatClampNeg)) (lo := 1) (ts := [72, 86, 107, 128, 145, 162, 186, 197, 230]) (t := 270) (L' := (q_s2 (q_s2 (q_L [(0, .inr (.inr (some (8, l0)))), (1, .inl l1), (2, .inl l2), (3, .inr (.inl l3)), (5, .inr (.inr (some (12, l5))))]) 6 (.inr (.inl (σ.2.2.1 10 l0 l1.toNatClampNeg)))) 8 (.inr (.inl (σ.2.2.1 11 l0 l1.toNatClampNeg))))) (st' := []) (σ' := σ) (fun _ => rfl) ?_
  refine q_sw_c (fun (hc : (σ.2.1 9 l0 l1.toNatClampNeg) = Int32.ofNat 1) => ?_) (fun (hc : ¬ (σ.2.1 9 l0 l1.toNatClampNeg) = Int32.ofNat 1) => ?_)
  · rw [if_pos hc] at h
    refine q_ex_br 5 (c := (lg_cmp l2.toInt64 (σ.2.2.1 10 l0 l1.toNatClampNeg)) = 0) (pc1 := 80) (pc2 := 84) (L' := (q_s2 (q_s2 (q_L [(0, .inr (.inr (some (8, l0)))), (1, .inl l1), (2, .inl l2), (3, .inr (.inl l3)), (5, .inr (.inr (some (12, l5))))]) 6 (.inr (.inl (σ.2.2.1 10 l0 l1.toNatClampNeg)))) 8 (.inr (.inl (σ.2.2.1 11 l0 l1.toNatClampNeg))))) (st' := []) (σ' := σ) (fun _ => rfl) (fun hc => ?_) (fun hc => ?_)
    · rw [if_pos hc] at h
      refine q_ex_go 2 (pc' := 85) (L' := (q_s2 (q_s2 (q_L [(0, .inr (.inr (some (8, l0)))), (1, .inl l1), (2, .inl l2), (3, .inr (.inl l3)), (5, .inr (.inr (some (12, l5))))]) 6 (.inr (.inl (σ.2.2.1 10 l0 l1.toNatClampNeg)))) 8 (.inr (.inl (σ.2.2.1 11 l0 l1.toNatClampNeg))))) (st' := [.inl 1]) (σ' := σ) (fun _ => rfl) ?_
      exact q_ex_ll (Pattern_holds_b85_e h) trivial
    · rw [if_neg hc] at h
      refine q_ex_go 1 (pc' := 85) (L' := (q_s2 (q_s2 (q_L [(0, .inr (.inr (some (8, l0)))), (1, .inl l1), (2, .inl l2), (3, .inr (.inl l3)), (5, .inr (.inr (some (12, l5))))]) 6 (.inr (.inl (σ.2.2.1 10 l0 l1.toNatClampNeg)))) 8 (.inr (.inl (σ.2.2.1 11 l0 l1.toNatClampNeg))))) (st' := [.inl 0]) (σ' := σ) (fun _ => rfl) ?_
      exact q_ex_ll (Pattern_holds_b85_e h) trivial
  rw [if_neg hc] at h
  refine q_sw_c (fun (hc : (σ.2.1 9 l0 l1.toNatClampNeg) = Int32.ofNat 2) => ?_) (fun (hc : ¬ (σ.2.1 9 l0 l1.toNatClampNeg) = Int32.ofNat 2) => ?_)
  · rw [if_pos hc] at h
    refine q_ex_br 5 (c := (lg_cmp l2.toInt64 (σ.2.2.1 10 l0 l1.toNatClampNeg)) = 0) (pc1 := 94) (pc2 := 105) (L' := (q_s2 (q_s2 (q_L [(0, .inr (.inr (some (8, l0)))), (1, .inl l1), (2, .inl l2), (3, .inr (.inl l3)), (5, .inr (.inr (some (12, l5))))]) 6 (.inr (.inl (σ.2.2.1 10 l0 l1.toNatClampNeg)))) 8 (.inr (.inl (σ.2.2.1 11 l0 l1.toNatClampNeg))))) (st' := []) (σ' := σ) (fun _ => rfl) (fun hc => ?_) (fun hc => ?_)
    · rw [if_pos hc] at h
      refine q_ex_br 4 (c := (lg_cmp l3 (σ.2.2.1 11 l0 l1.toNatClampNeg)) = 0) (pc1 := 101) (pc2 := 105) (L' := (q_s2 (q_s2 (q_L [(0, .inr (.inr (some (8, l0)))), (1, .inl l1), (2, .inl l2), (3, .inr (.inl l3)), (5, .inr (.inr (some (12, l5))))]) 6 (.inr (.inl (σ.2.2.1 10 l0 l1.toNatClampNeg)))) 8 (.inr (.inl (σ.2.2.1 11 l0 l1.toNatClampNeg))))) (st' := []) (σ' := σ) (fun _ => rfl) (fun hc => ?_) (fun hc => ?_)
      · rw [if_pos hc] at h
        refine q_ex_go 2 (pc' := 106) (L' := (q_s2 (q_s2 (q_L [(0, .inr (.inr (some (8, l0)))), (1, .inl l1), (2, .inl l2), (3, .inr (.inl l3)), (5, .inr (.inr (some (12, l5))))]) 6 (.inr (.inl (σ.2.2.1 10 l0 l1.toNatClampNeg)))) 8 (.inr (.inl (σ.2.2.1 11 l0 l1.toNatClampNeg))))) (st' := [.inl 1]) (σ' := σ) (fun _ => rfl) ?_
        exact q_ex_ll (Pattern_holds_b106_e h) trivial
      · rw [if_neg hc] at h
        exact q_ex_ll (Pattern_holds_b105_e h) trivial
    · rw [if_neg hc] at h
      exact q_ex_ll (Pattern_holds_b105_e h) trivial
  rw [if_neg hc] at h
  refine q_sw_c (fun (hc : (σ.2.1 9 l0 l1.toNatClampNeg) = Int32.ofNat 3) => ?_) (fun (hc : ¬ (σ.2.1 9 l0 l1.toNatClampNeg) = Int32.ofNat 3) => ?_)
  · rw [if_pos hc] at h
    refine q_ex_br 5 (c := (lg_cmp l2.toInt64 (σ.2.2.1 10 l0 l1.toNatClampNeg)) = 0) (pc1 := 115) (pc2 := 122) (L' := (q_s2 (q_s2 (q_L [(0, .inr (.inr (some (8, l0)))), (1, .inl l1), (2, .inl l2), (3, .inr (.inl l3)), (5, .inr (.inr (some (12, l5))))]) 6 (.inr (.inl (σ.2.2.1 10 l0 l1.toNatClampNeg)))) 8 (.inr (.inl (σ.2.2.1 11 l0 l1.toNatClampNeg))))) (st' := []) (σ' := σ) (fun _ => rfl) (fun hc => ?_) (fun hc => ?_)
    · rw [if_pos hc] at h
      refine q_ex_br 4 (c := (lg_cmp l3 (σ.2.2.1 11 l0 l1.toNatClampNeg)) = 0) (pc1 := 126) (pc2 := 122) (L' := (q_s2 (q_s2 (q_L [(0, .inr (.inr (some (8, l0)))), (1, .inl l1), (2, .inl l2), (3, .inr (.inl l3)), (5, .inr (.inr (some (12, l5))))]) 6 (.inr (.inl (σ.2.2.1 10 l0 l1.toNatClampNeg)))) 8 (.inr (.inl (σ.2.2.1 11 l0 l1.toNatClampNeg))))) (st' := []) (σ' := σ) (fun _ => rfl) (fun hc => ?_) (fun hc => ?_)
      · rw [if_pos hc] at h
        refine q_ex_go 1 (pc' := 127) (L' := (q_s2 (q_s2 (q_L [(0, .inr (.inr (some (8, l0)))), (1, .inl l1), (2, .inl l2), (3, .inr (.inl l3)), (5, .inr (.inr (some (12, l5))))]) 6 (.inr (.inl (σ.2.2.1 10 l0 l1.toNatClampNeg)))) 8 (.inr (.inl (σ.2.2.1 11 l0 l1.toNatClampNeg))))) (st' := [.inl 0]) (σ' := σ) (fun _ => rfl) ?_
        exact q_ex_ll (Pattern_holds_b127_e h) trivial
      · rw [if_neg hc] at h
        exact q_ex_ll (Pattern_holds_b122_e h) trivial
    · rw [if_neg hc] at h
      exact q_ex_ll (Pattern_holds_b122_e h) trivial
  rw [if_neg hc] at h
  refine q_sw_c (fun (hc : (σ.2.1 9 l0 l1.toNatClampNeg) = Int32.ofNat 4) => ?_) (fun (hc : ¬ (σ.2.1 9 l0 l1.toNatClampNeg) = Int32.ofNat 4) => ?_)
  · rw [if_pos hc] at h
    refine q_ex_br 2 (c := l2 = 0) (pc1 := 132) (pc2 := 143) (L' := (q_s2 (q_s2 (q_L [(0, .inr (.inr (some (8, l0)))), (1, .inl l1), (2, .inl l2), (3, .inr (.inl l3)), (5, .inr (.inr (some (12, l5))))]) 6 (.inr (.inl (σ.2.2.1 10 l0 l1.toNatClampNeg)))) 8 (.inr (.inl (σ.2.2.1 11 l0 l1.toNatClampNeg))))) (st' := []) (σ' := σ) (fun _ => rfl) (fun hc => ?_) (fun hc => ?_)
    · rw [if_pos hc] at h
      refine q_ex_br 4 (c := 0 ≤ (lg_cmp l3 (σ.2.2.1 11 l0 l1.toNatClampNeg))) (pc1 := 143) (pc2 := 139) (L' := (q_s2 (q_s2 (q_L [(0, .inr (.inr (some (8, l0)))), (1, .inl l1), (2, .inl l2), (3, .inr (.inl l3)), (5, .inr (.inr (some (12, l5))))]) 6 (.inr (.inl (σ.2.2.1 10 l0 l1.toNatClampNeg)))) 8 (.inr (.inl (σ.2.2.1 11 l0 l1.toNatClampNeg))))) (st' := []) (σ' := σ) (fun _ => rfl) (fun hc => ?_) (fun hc => ?_)
      · rw [if_pos hc] at h
        exact q_ex_ll (Pattern_holds_b143_e h) trivial
      · rw [if_neg hc] at h
        refine q_ex_go 2 (pc' := 144) (L' := (q_s2 (q_s2 (q_L [(0, .inr (.inr (some (8, l0)))), (1, .inl l1), (2, .inl l2), (3, .inr (.inl l3)), (5, .inr (.inr (some (12, l5))))]) 6 (.inr (.inl (σ.2.2.1 10 l0 l1.toNatClampNeg)))) 8 (.inr (.inl (σ.2.2.1 11 l0 l1.toNatClampNeg))))) (st' := [.inl 1]) (σ' := σ) (fun _ => rfl) ?_
        exact q_ex_ll (Pattern_holds_b144_e h) trivial
    · rw [if_neg hc] at h
      exact q_ex_ll (Pattern_holds_b143_e h) trivial
  rw [if_neg hc] at h
  refine q_sw_c (fun (hc : (σ.2.1 9 l0 l1.toNatClampNeg) = Int32.ofNat 5) => ?_) (fun (hc : ¬ (σ.2.1 9 l0 l1.toNatClampNeg) = Int32.ofNat 5) => ?_)
  · rw [if_pos hc] at h
    refine q_ex_br 2 (c := l2 = 0) (pc1 := 149) (pc2 := 160) (L' := (q_s2 (q_s2 (q_L [(0, .inr (.inr (some (8, l0)))), (1, .inl l1), (2, .inl l2), (3, .inr (.inl l3)), (5, .inr (.inr (some (12, l5))))]) 6 (.inr (.inl (σ.2.2.1 10 l0 l1.toNatClampNeg)))) 8 (.inr (.inl (σ.2.2.1 11 l0 l1.toNatClampNeg))))) (st' := []) (σ' := σ) (fun _ => rfl) (fun hc => ?_) (fun hc => ?_)
    · rw [if_pos hc] at h
      refine q_ex_br 4 (c := (lg_cmp l3 (σ.2.2.1 11 l0 l1.toNatClampNeg)) ≤ 0) (pc1 := 160) (pc2 := 156) (L' := (q_s2 (q_s2 (q_L [(0, .inr (.inr (some (8, l0)))), (1, .inl l1), (2, .inl l2), (3, .inr (.inl l3)), (5, .inr (.inr (some (12, l5))))]) 6 (.inr (.inl (σ.2.2.1 10 l0 l1.toNatClampNeg)))) 8 (.inr (.inl (σ.2.2.1 11 l0 l1.toNatClampNeg))))) (st' := []) (σ' := σ) (fun _ => rfl) (fun hc => ?_) (fun hc => ?_)
      · rw [if_pos hc] at h
        exact q_ex_ll (Pattern_holds_b160_e h) trivial
      · rw [if_neg hc] at h
        refine q_ex_go 2 (pc' := 161) (L' := (q_s2 (q_s2 (q_L [(0, .inr (.inr (some (8, l0)))), (1, .inl l1), (2, .inl l2), (3, .inr (.inl l3)), (5, .inr (.inr (some (12, l5))))]) 6 (.inr (.inl (σ.2.2.1 10 l0 l1.toNatClampNeg)))) 8 (.inr (.inl (σ.2.2.1 11 l0 l1.toNatClampNeg))))) (st' := [.inl 1]) (σ' := σ) (fun _ => rfl) ?_
        exact q_ex_ll (Pattern_holds_b161_e h) trivial
    · rw [if_neg hc] at h
      exact q_ex_ll (Pattern_holds_b160_e h) trivial
  rw [if_neg hc] at h
  refine q_sw_c (fun (hc : (σ.2.1 9 l0 l1.toNatClampNeg) = Int32.ofNat 6) => ?_) (fun (hc : ¬ (σ.2.1 9 l0 l1.toNatClampNeg) = Int32.ofNat 6) => ?_)
  · rw [if_pos hc] at h
    refine q_ex_br 2 (c := l2 = 0) (pc1 := 166) (pc2 := 184) (L' := (q_s2 (q_s2 (q_L [(0, .inr (.inr (some (8, l0)))), (1, .inl l1), (2, .inl l2), (3, .inr (.inl l3)), (5, .inr (.inr (some (12, l5))))]) 6 (.inr (.inl (σ.2.2.1 10 l0 l1.toNatClampNeg)))) 8 (.inr (.inl (σ.2.2.1 11 l0 l1.toNatClampNeg))))) (st' := []) (σ' := σ) (fun _ => rfl) (fun hc => ?_) (fun hc => ?_)
    · rw [if_pos hc] at h
      refine q_ex_br 4 (c := (lg_cmp l3 (σ.2.2.1 10 l0 l1.toNatClampNeg)) < 0) (pc1 := 184) (pc2 := 173) (L' := (q_s2 (q_s2 (q_L [(0, .inr (.inr (some (8, l0)))), (1, .inl l1), (2, .inl l2), (3, .inr (.inl l3)), (5, .inr (.inr (some (12, l5))))]) 6 (.inr (.inl (σ.2.2.1 10 l0 l1.toNatClampNeg)))) 8 (.inr (.inl (σ.2.2.1 11 l0 l1.toNatClampNeg))))) (st' := []) (σ' := σ) (fun _ => rfl) (fun hc => ?_) (fun hc => ?_)
      · rw [if_pos hc] at h
        exact q_ex_ll (Pattern_holds_b184_e h) trivial
      · rw [if_neg hc] at h
        refine q_ex_br 4 (c := 0 < (lg_cmp l3 (σ.2.2.1 11 l0 l1.toNatClampNeg))) (pc1 := 184) (pc2 := 180) (L' := (q_s2 (q_s2 (q_L [(0, .inr (.inr (some (8, l0)))), (1, .inl l1), (2, .inl l2), (3, .inr (.inl l3)), (5, .inr (.inr (some (12, l5))))]) 6 (.inr (.inl (σ.2.2.1 10 l0 l1.toNatClampNeg)))) 8 (.inr (.inl (σ.2.2.1 11 l0 l1.toNatClampNeg))))) (st' := []) (σ' := σ) (fun _ => rfl) (fun hc => ?_) (fun hc => ?_)
        · rw [if_pos hc] at h
          exact q_ex_ll (Pattern_holds_b184_e h) trivial
        · rw [if_neg hc] at h
          refine q_ex_go 2 (pc' := 185) (L' := (q_s2 (q_s2 (q_L [(0, .inr (.inr (some (8, l0)))), (1, .inl l1), (2, .inl l2), (3, .inr (.inl l3)), (5, .inr (.inr (some (12, l5))))]) 6 (.inr (.inl (σ.2.2.1 10 l0 l1.toNatClampNeg)))) 8 (.inr (.inl (σ.2.2.1 11 l0 l1.toNatClampNeg))))) (st' := [.inl 1]) (σ' := σ) (fun _ => rfl) ?_
          exact q_ex_ll (Pattern_holds_b185_e h) trivial
    · rw [if_neg hc] at h
      exact q_ex_ll (Pattern_holds_b184_e h) trivial
  rw [if_neg hc] at h
  refine q_sw_c (fun (hc : (σ.2.1 9 l0 l1.toNatClampNeg) = Int32.ofNat 7) => ?_) (fun (hc : ¬ (σ.2.1 9 l0 l1.toNatClampNeg) = Int32.ofNat 7) => ?_)
  · rw [if_pos hc] at h
    obtain ⟨q1, hq1, h⟩ := Option.bind_eq_some_iff.mp h
    refine q_ex_ca 6 (k1 := 48) (vs := [.inr (.inr (some (12, l5))), .inl ((σ.2.2.1 10 l0 l1.toNatClampNeg).toInt32), .inl l2, .inr (.inl l3)]) (pc' := 196) (L' := (q_s2 (q_s2 (q_L [(0, .inr (.inr (some (8, l0)))), (1, .inl l1), (2, .inl l2), (3, .inr (.inl l3)), (5, .inr (.inr (some (12, l5))))]) 6 (.inr (.inl (σ.2.2.1 10 l0 l1.toNatClampNeg)))) 8 (.inr (.inl (σ.2.2.1 11 l0 l1.toNatClampNeg))))) (rest := []) (σ' := σ) (fun _ => rfl) (q_ex_dd (Finding_bindOrCompare_e hq1) (Nat.le_of_ble_eq_true rfl)) rfl ?_
    refine q_by h (fun hz h => ?_)
    cases h
    exact ⟨1, if_pos (e := (none : Option Res)) hz⟩
  rw [if_neg hc] at h
  refine q_sw_c (fun (hc : (σ.2.1 9 l0 l1.toNatClampNeg) = Int32.ofNat 8) => ?_) (fun (hc : ¬ (σ.2.1 9 l0 l1.toNatClampNeg) = Int32.ofNat 8) => ?_)
  · rw [if_pos hc] at h
    refine q_ex_br 3 (c := l2 = 2) (pc1 := 202) (pc2 := 228) (L' := (q_s2 (q_s2 (q_L [(0, .inr (.inr (some (8, l0)))), (1, .inl l1), (2, .inl l2), (3, .inr (.inl l3)), (5, .inr (.inr (some (12, l5))))]) 6 (.inr (.inl (σ.2.2.1 10 l0 l1.toNatClampNeg)))) 8 (.inr (.inl (σ.2.2.1 11 l0 l1.toNatClampNeg))))) (st' := []) (σ' := σ) (fun _ => rfl) (fun hc => ?_) (fun hc => ?_)
    · rw [if_pos hc] at h
      refine q_ex_br 4 (c := (lg_cmp l3 (-1)) = 0) (pc1 := 228) (pc2 := 210) (L' := (q_s2 (q_s2 (q_L [(0, .inr (.inr (some (8, l0)))), (1, .inl l1), (2, .inl l2), (3, .inr (.inl l3)), (5, .inr (.inr (some (12, l5))))]) 6 (.inr (.inl (σ.2.2.1 10 l0 l1.toNatClampNeg)))) 8 (.inr (.inl (σ.2.2.1 11 l0 l1.toNatClampNeg))))) (st' := []) (σ' := σ) (fun _ => rfl) (fun hc => ?_) (fun hc => ?_)
      · rw [if_pos hc] at h
        exact q_ex_ll (Pattern_holds_b228_e h) trivial
      · rw [if_neg hc] at h
        obtain ⟨q2, hq2, h⟩ := Option.bind_eq_some_iff.mp h
        refine q_ex_ca 5 (k1 := 54) (vs := [.inr (.inr (some (12, l5))), .inl ((σ.2.2.1 10 l0 l1.toNatClampNeg).toInt32)]) (pc' := 219) (L' := (q_s2 (q_s2 (q_L [(0, .inr (.inr (some (8, l0)))), (1, .inl l1), (2, .inl l2), (3, .inr (.inl l3)), (5, .inr (.inr (some (12, l5))))]) 6 (.inr (.inl (σ.2.2.1 10 l0 l1.toNatClampNeg)))) 8 (.inr (.inl (σ.2.2.1 11 l0 l1.toNatClampNeg))))) (rest := [.inr (.inl l3)]) (σ' := σ) (fun _ => rfl) (q_ex_dd (Finding_numberFor_e hq2) (Nat.le_of_ble_eq_true rfl)) rfl ?_
        refine q_ex_br 3 (c := (lg_cmp l3 q2.1.toInt64) = 0) (pc1 := 224) (pc2 := 228) (L' := (q_s2 (q_s2 (q_L [(0, .inr (.inr (some (8, l0)))), (1, .inl l1), (2, .inl l2), (3, .inr (.inl l3)), (5, .inr (.inr (some (12, l5))))]) 6 (.inr (.inl (σ.2.2.1 10 l0 l1.toNatClampNeg)))) 8 (.inr (.inl (σ.2.2.1 11 l0 l1.toNatClampNeg))))) (st' := []) (σ' := q2.2) (fun _ => rfl) (fun hc => ?_) (fun hc => ?_)
        · rw [if_pos hc] at h
          refine q_ex_go 2 (pc' := 229) (L' := (q_s2 (q_s2 (q_L [(0, .inr (.inr (some (8, l0)))), (1, .inl l1), (2, .inl l2), (3, .inr (.inl l3)), (5, .inr (.inr (some (12, l5))))]) 6 (.inr (.inl (σ.2.2.1 10 l0 l1.toNatClampNeg)))) 8 (.inr (.inl (σ.2.2.1 11 l0 l1.toNatClampNeg))))) (st' := [.inl 1]) (σ' := q2.2) (fun _ => rfl) ?_
          exact q_ex_ll (Pattern_holds_b229_e h) trivial
        · rw [if_neg hc] at h
          exact q_ex_ll (Pattern_holds_b228_e h) trivial
    · rw [if_neg hc] at h
      exact q_ex_ll (Pattern_holds_b228_e h) trivial
  rw [if_neg hc] at h
  refine q_sw_c (fun (hc : (σ.2.1 9 l0 l1.toNatClampNeg) = Int32.ofNat 9) => ?_) (fun (hc : ¬ (σ.2.1 9 l0 l1.toNatClampNeg) = Int32.ofNat 9) => ?_)
  · rw [if_pos hc] at h
    refine q_ex_br 5 (c := (lg_cmp l2.toInt64 (σ.2.2.1 10 l0 l1.toNatClampNeg)) = 0) (pc1 := 238) (pc2 := 268) (L' := (q_s2 (q_s2 (q_L [(0, .inr (.inr (some (8, l0)))), (1, .inl l1), (2, .inl l2), (3, .inr (.inl l3)), (5, .inr (.inr (some (12, l5))))]) 6 (.inr (.inl (σ.2.2.1 10 l0 l1.toNatClampNeg)))) 8 (.inr (.inl (σ.2.2.1 11 l0 l1.toNatClampNeg))))) (st' := []) (σ' := σ) (fun _ => rfl) (fun hc => ?_) (fun hc => ?_)
    · rw [if_pos hc] at h
      refine q_ex_br 4 (c := (lg_cmp l3 0) < 0) (pc1 := 268) (pc2 := 244) (L' := (q_s2 (q_s2 (q_L [(0, .inr (.inr (some (8, l0)))), (1, .inl l1), (2, .inl l2), (3, .inr (.inl l3)), (5, .inr (.inr (some (12, l5))))]) 6 (.inr (.inl (σ.2.2.1 10 l0 l1.toNatClampNeg)))) 8 (.inr (.inl (σ.2.2.1 11 l0 l1.toNatClampNeg))))) (st' := []) (σ' := σ) (fun _ => rfl) (fun hc => ?_) (fun hc => ?_)
      · rw [if_pos hc] at h
        exact q_ex_ll (Pattern_holds_b268_e h) trivial
      · rw [if_neg hc] at h
        refine q_ex_br 4 (c := 0 < (lg_cmp l3 63)) (pc1 := 268) (pc2 := 252) (L' := (q_s2 (q_s2 (q_L [(0, .inr (.inr (some (8, l0)))), (1, .inl l1), (2, .inl l2), (3, .inr (.inl l3)), (5, .inr (.inr (some (12, l5))))]) 6 (.inr (.inl (σ.2.2.1 10 l0 l1.toNatClampNeg)))) 8 (.inr (.inl (σ.2.2.1 11 l0 l1.toNatClampNeg))))) (st' := []) (σ' := σ) (fun _ => rfl) (fun hc => ?_) (fun hc => ?_)
        · rw [if_pos hc] at h
          exact q_ex_ll (Pattern_holds_b268_e h) trivial
        · rw [if_neg hc] at h
          refine q_ex_br 9 (c := (lg_cmp ((((σ.2.2.1 11 l0 l1.toNatClampNeg).toUInt64 >>> (l3.toInt32.toInt64.toUInt64 &&& Int64.toUInt64 63)).toInt64) &&& 1) 1) = 0) (pc1 := 264) (pc2 := 268) (L' := (q_s2 (q_s2 (q_L [(0, .inr (.inr (some (8, l0)))), (1, .inl l1), (2, .inl l2), (3, .inr (.inl l3)), (5, .inr (.inr (some (12, l5))))]) 6 (.inr (.inl (σ.2.2.1 10 l0 l1.toNatClampNeg)))) 8 (.inr (.inl (σ.2.2.1 11 l0 l1.toNatClampNeg))))) (st' := []) (σ' := σ) (fun _ => rfl) (fun hc => ?_) (fun hc => ?_)
          · rw [if_pos hc] at h
            refine q_ex_go 2 (pc' := 269) (L' := (q_s2 (q_s2 (q_L [(0, .inr (.inr (some (8, l0)))), (1, .inl l1), (2, .inl l2), (3, .inr (.inl l3)), (5, .inr (.inr (some (12, l5))))]) 6 (.inr (.inl (σ.2.2.1 10 l0 l1.toNatClampNeg)))) 8 (.inr (.inl (σ.2.2.1 11 l0 l1.toNatClampNeg))))) (st' := [.inl 1]) (σ' := σ) (fun _ => rfl) ?_
            exact q_ex_ll (Pattern_holds_b269_e h) trivial
          · rw [if_neg hc] at h
            exact q_ex_ll (Pattern_holds_b268_e h) trivial
    · rw [if_neg hc] at h
      exact q_ex_ll (Pattern_holds_b268_e h) trivial
  rw [if_neg hc] at h
  refine q_sw_d ?_
  refine q_ex_go 1 (pc' := 271) (L' := (q_s2 (q_s2 (q_L [(0, .inr (.inr (some (8, l0)))), (1, .inl l1), (2, .inl l2), (3, .inr (.inl l3)), (5, .inr (.inr (some (12, l5))))]) 6 (.inr (.inl (σ.2.2.1 10 l0 l1.toNatClampNeg)))) 8 (.inr (.inl (σ.2.2.1 11 l0 l1.toNatClampNeg))))) (st' := [.inl 1]) (σ' := σ) (fun _ => rfl) ?_
  refine q_by h (fun hz h => ?_)
  cases h
  exact ⟨1, if_pos (e := (none : Option Res)) hz⟩
theorem Pattern_holds_e {n : Nat} {r0 : (Int32) × J} {x0 : Nat} {x1 : Int32} {x2 : Int32} {x3 : Int64} {x5 : Nat} {σ : J} (h : Pattern_holds n x0 x1 x2 x3 x5 σ = some r0) : q_ex q_pr n 1 65 0 (q_args 0 [.inr (.inr (some (8, x0))), .inl x1, .inl x2, .inr (.inl x3), .inr (.inr (some (12, x5)))]) [] σ (Pattern_holds_r r0) := q_ex_ll (Pattern_holds_b0_e h) ⟨rfl, rfl, rfl, rfl, rfl, trivial⟩
def Pattern_fits_r : (Int32) × J → Res := fun q => (.inl (some (.inl q.1)), q.2)
-- 64: Pattern_fits
def Pattern_fits_b15 (n : Nat) (k15 : Nat → Nat → Nat → Int32 → J → Option ((Int32) × J)) (f : Nat) (l0 : Nat) (l1 : Nat) (l2 : Nat) (l3 : Int32) (σ : J) : Option ((Int32) × J) := if (σ.1 8 0 l0) ≤ l3 then if (1 : Int32) &&& 1 = 1 then some (1, σ) else none else if q_in l3 4 = true then if q_in l3 4 = true then (Pattern_holds n l0 l3 (σ.2.1 6 l1 l3.toNatClampNeg) (σ.2.2.1 7 l1 l3.toNatClampNeg) l2 σ).bind fun q1 => if q1.1 = 0 then if (0 : Int32) &&& 1 = 0 then some (0, q1.2) else none else k15 l0 l1 l2 (l3 + 1) q1.2 else none else none
def Pattern_fits_L15 (n : Nat) : Nat → Nat → Nat → Nat → Int32 → J → Option ((Int32) × J)
  | 0 => fun _ _ _ _ _ => none
  | f + 1 => fun l0 l1 l2 l3 σ => Pattern_fits_b15 n (Pattern_fits_L15 n f) f l0 l1 l2 l3 σ
def Pattern_fits_b0 (n : Nat) (f : Nat) (l0 : Nat) (l1 : Nat) (l2 : Nat) (σ : J) : Option ((Int32) × J) := if (σ.1 5 0 l1) = (σ.1 8 0 l0) then Pattern_fits_L15 n f l0 l1 l2 0 σ else if (0 : Int32) &&& 1 = 0 then some (0, σ) else none
def Pattern_fits (n : Nat) (f : Nat) (x0 : Nat) (x1 : Nat) (x2 : Nat) (σ : J) : Option ((Int32) × J) := Pattern_fits_b0 n f x0 x1 x2 σ
theorem Pattern_fits_b15_e {n : Nat} {r0 : (Int32) × J} {k15 : Nat → Nat → Nat → Int32 → J → Option ((Int32) × J)} {f : Nat} {l0 : Nat} {l1 : Nat} {l2 : Nat} {l3 : Int32} {σ : J} (hk15 : ∀ {l0 : Nat} {l1 : Nat} {l2 : Nat} {l3 : Int32} {σ : J}, k15 l0 l1 l2 l3 σ = some r0 → q_ex q_pr n 2 64 15 (q_L [(0, .inr (.inr (some (8, l0)))), (1, .inr (.inr (some (5, l1)))), (2, .inr (.inr (some (12, l2)))), (3, .inl l3)]) [] σ (Pattern_fits_r r0)) (h : Pattern_fits_b15 n k15 f l0 l1 l2 l3 σ = some r0) : q_ex q_pr n 2 64 15 (q_L [(0, .inr (.inr (some (8, l0)))), (1, .inr (.inr (some (5, l1)))), (2, .inr (.inr (some (12, l2)))), (3, .inl l3)]) [] σ (Pattern_fits_r r0) := by
  unfold Pattern_fits_b15 at h
  refine q_ex_br 4 (c := (σ.1 8 0 l0) ≤ l3) (pc1 := 52) (pc2 := 23) (L' := (q_L [(0, .inr (.inr (some (8, l0)))), (1, .inr (.inr (some (5, l1)))), (2, .inr (.inr (some (12, l2)))), (3, .inl l3)])) (st' := []) (σ' := σ) (fun _ => rfl) (fun hc => ?_) (fun hc => ?_)
  · rw [if_pos hc] at h
    refine q_ex_go 1 (pc' := 53) (L' := (q_L [(0, .inr (.inr (some (8, l0)))), (1, .inr (.inr (some (5, l1)))), (2, .inr (.inr (some (12, l2)))), (3, .inl l3)])) (st' := [.inl 1]) (σ' := σ) (fun _ => rfl) ?_
    refine q_by h (fun hz h => ?_)
    cases h
    exact ⟨1, if_pos (e := (none : Option Res)) hz⟩
  · rw [if_neg hc] at h
    refine q_by h (fun hz h => ?_)
    refine q_ex_gb 6 (pc' := 31) (L' := (q_L [(0, .inr (.inr (some (8, l0)))), (1, .inr (.inr (some (5, l1)))), (2, .inr (.inr (some (12, l2)))), (3, .inl l3)])) (st' := [.inl (σ.2.1 6 l1 l3.toNatClampNeg), .inl l3, .inr (.inr (some (8, l0)))]) (σ' := σ) (fun _ => rfl) hz ?_
    refine q_by h (fun hz h => ?_)
    refine q_ex_gb 4 (pc' := 37) (L' := (q_L [(0, .inr (.inr (some (8, l0)))), (1, .inr (.inr (some (5, l1)))), (2, .inr (.inr (some (12, l2)))), (3, .inl l3)])) (st' := [.inr (.inl (σ.2.2.1 7 l1 l3.toNatClampNeg)), .inl (σ.2.1 6 l1 l3.toNatClampNeg), .inl l3, .inr (.inr (some (8, l0)))]) (σ' := σ) (fun _ => rfl) hz ?_
    obtain ⟨q1, hq1, h⟩ := Option.bind_eq_some_iff.mp h
    refine q_ex_ca 2 (k1 := 65) (vs := [.inr (.inr (some (8, l0))), .inl l3, .inl (σ.2.1 6 l1 l3.toNatClampNeg), .inr (.inl (σ.2.2.1 7 l1 l3.toNatClampNeg)), .inr (.inr (some (12, l2)))]) (pc' := 41) (L' := (q_L [(0, .inr (.inr (some (8, l0)))), (1, .inr (.inr (some (5, l1)))), (2, .inr (.inr (some (12, l2)))), (3, .inl l3)])) (rest := []) (σ' := σ) (fun _ => rfl) (q_ex_dd (Pattern_holds_e hq1) (Nat.le_of_ble_eq_true rfl)) rfl ?_
    refine q_ex_br 1 (c := q1.1 = 0) (pc1 := 44) (pc2 := 46) (L' := (q_L [(0, .inr (.inr (some (8, l0)))), (1, .inr (.inr (some (5, l1)))), (2, .inr (.inr (some (12, l2)))), (3, .inl l3)])) (st' := []) (σ' := q1.2) (fun _ => rfl) (fun hc => ?_) (fun hc => ?_)
    · rw [if_pos hc] at h
      refine q_ex_go 1 (pc' := 45) (L' := (q_L [(0, .inr (.inr (some (8, l0)))), (1, .inr (.inr (some (5, l1)))), (2, .inr (.inr (some (12, l2)))), (3, .inl l3)])) (st' := [.inl 0]) (σ' := q1.2) (fun _ => rfl) ?_
      refine q_by h (fun hz h => ?_)
      cases h
      exact ⟨1, if_pos (e := (none : Option Res)) hz⟩
    · rw [if_neg hc] at h
      refine q_ex_go 2 (pc' := 15) (L' := (q_s1 (q_L [(0, .inr (.inr (some (8, l0)))), (1, .inr (.inr (some (5, l1)))), (2, .inr (.inr (some (12, l2)))), (3, .inl l3)]) 3 (.inl (l3 + 1)))) (st' := []) (σ' := q1.2) (fun _ => rfl) ?_
      exact q_ex_ll (hk15 h) ⟨rfl, rfl, rfl, rfl, trivial⟩
theorem Pattern_fits_L15_e {n : Nat} {r0 : (Int32) × J} (f : Nat) : ∀ {l0 : Nat} {l1 : Nat} {l2 : Nat} {l3 : Int32} {σ : J}, Pattern_fits_L15 n f l0 l1 l2 l3 σ = some r0 → q_ex q_pr n 2 64 15 (q_L [(0, .inr (.inr (some (8, l0)))), (1, .inr (.inr (some (5, l1)))), (2, .inr (.inr (some (12, l2)))), (3, .inl l3)]) [] σ (Pattern_fits_r r0) := by
  induction f with
  | zero => intro l0 l1 l2 l3 σ h; cases h
  | succ f ih =>
    intro l0 l1 l2 l3 σ h
    exact Pattern_fits_b15_e (f := f) (fun h => ih h) h
theorem Pattern_fits_b0_e {n : Nat} {r0 : (Int32) × J} {f : Nat} {l0 : Nat} {l1 : Nat} {l2 : Nat} {σ : J} (h : Pattern_fits_b0 n f l0 l1 l2 σ = some r0) : q_ex q_pr n 2 64 0 (q_L [(0, .inr (.inr (some (8, l0)))), (1, .inr (.inr (some (5, l1)))), (2, .inr (.inr (some (12, l2))))]) [] σ (Pattern_fits_r r0) := by
  unfold Pattern_fits_b0 at h
  refine q_ex_br 5 (c := (σ.1 5 0 l1) = (σ.1 8 0 l0)) (pc1 := 13) (pc2 := 11) (L' := (q_L [(0, .inr (.inr (some (8, l0)))), (1, .inr (.inr (some (5, l1)))), (2, .inr (.inr (some (12, l2))))])) (st' := []) (σ' := σ) (fun _ => rfl) (fun hc => ?_) (fun hc => ?_)
  · rw [if_pos hc] at h
    refine q_ex_go 2 (pc' := 15) (L' := (q_s1 (q_L [(0, .inr (.inr (some (8, l0)))), (1, .inr (.inr (some (5, l1)))), (2, .inr (.inr (some (12, l2))))]) 3 (.inl 0))) (st' := []) (σ' := σ) (fun _ => rfl) ?_
    exact q_ex_ll (Pattern_fits_L15_e f h) ⟨rfl, rfl, rfl, rfl, trivial⟩
  · rw [if_neg hc] at h
    refine q_ex_go 1 (pc' := 12) (L' := (q_L [(0, .inr (.inr (some (8, l0)))), (1, .inr (.inr (some (5, l1)))), (2, .inr (.inr (some (12, l2))))])) (st' := [.inl 0]) (σ' := σ) (fun _ => rfl) ?_
    refine q_by h (fun hz h => ?_)
    cases h
    exact ⟨1, if_pos (e := (none : Option Res)) hz⟩
theorem Pattern_fits_e {n : Nat} {r0 : (Int32) × J} {f : Nat} {x0 : Nat} {x1 : Nat} {x2 : Nat} {σ : J} (h : Pattern_fits n f x0 x1 x2 σ = some r0) : q_ex q_pr n 2 64 0 (q_args 0 [.inr (.inr (some (8, x0))), .inr (.inr (some (5, x1))), .inr (.inr (some (12, x2)))]) [] σ (Pattern_fits_r r0) := q_ex_ll (Pattern_fits_b0_e h) ⟨rfl, rfl, rfl, trivial⟩
def Board_lookUp_r : (Option Nat) × J → Res := fun q => (.inl (some (.inr (.inr (q.1.map fun i => (4, i))))), q.2)
-- 41: Board_lookUp
def Board_lookUp_b42 (n : Nat) (k2 : Int32 → Int32 → J → Option ((Option Nat) × J)) (f : Nat) (l1 : Int32) (l2 : Int32) (σ : J) : Option ((Option Nat) × J) := k2 l1 (l2 + 1) σ
def Board_lookUp_b2 (n : Nat) (k2 : Int32 → Int32 → J → Option ((Option Nat) × J)) (f : Nat) (l1 : Int32) (l2 : Int32) (σ : J) : Option ((Option Nat) × J) := if (σ.1 2 1 0) ≤ l2 then some (none, σ) else if q_in l2 20 = true then if Nat.blt (σ.2.2.2 3 0 l2.toNatClampNeg) 20 = true then if (σ.1 4 0 (σ.2.2.2 3 0 l2.toNatClampNeg)) = 0 then Board_lookUp_b42 n k2 f l1 l2 σ else if q_in l2 20 = true then if Nat.blt (σ.2.2.2 3 0 l2.toNatClampNeg) 20 = true then if (σ.1 4 1 (σ.2.2.2 3 0 l2.toNatClampNeg)) = l1 then if q_in l2 20 = true then if Nat.blt (σ.2.2.2 3 0 l2.toNatClampNeg) 20 = true then some (some (σ.2.2.2 3 0 l2.toNatClampNeg), σ) else none else none else Board_lookUp_b42 n k2 f l1 l2 σ else none else none else none else none
def Board_lookUp_L2 (n : Nat) : Nat → Int32 → Int32 → J → Option ((Option Nat) × J)
  | 0 => fun _ _ _ => none
  | f + 1 => fun l1 l2 σ => Board_lookUp_b2 n (Board_lookUp_L2 n f) f l1 l2 σ
def Board_lookUp_b0 (n : Nat) (f : Nat) (l1 : Int32) (σ : J) : Option ((Option Nat) × J) := Board_lookUp_L2 n f l1 0 σ
def Board_lookUp (n : Nat) (f : Nat) (x1 : Int32) (σ : J) : Option ((Option Nat) × J) := Board_lookUp_b0 n f x1 σ
theorem Board_lookUp_b42_e {n : Nat} {r0 : (Option Nat) × J} {k2 : Int32 → Int32 → J → Option ((Option Nat) × J)} {f : Nat} {l1 : Int32} {l2 : Int32} {σ : J} (hk2 : ∀ {l1 : Int32} {l2 : Int32} {σ : J}, k2 l1 l2 σ = some r0 → q_ex q_pr n 0 41 2 (q_L [(0, .inr (.inr (some (2, 0)))), (1, .inl l1), (2, .inl l2)]) [] σ (Board_lookUp_r r0)) (h : Board_lookUp_b42 n k2 f l1 l2 σ = some r0) : q_ex q_pr n 0 41 42 (q_L [(0, .inr (.inr (some (2, 0)))), (1, .inl l1), (2, .inl l2)]) [] σ (Board_lookUp_r r0) := by
  unfold Board_lookUp_b42 at h
  refine q_ex_go 2 (pc' := 2) (L' := (q_s1 (q_L [(0, .inr (.inr (some (2, 0)))), (1, .inl l1), (2, .inl l2)]) 2 (.inl (l2 + 1)))) (st' := []) (σ' := σ) (fun _ => rfl) ?_
  exact q_ex_ll (hk2 h) ⟨rfl, rfl, rfl, trivial⟩
theorem Board_lookUp_b2_e {n : Nat} {r0 : (Option Nat) × J} {k2 : Int32 → Int32 → J → Option ((Option Nat) × J)} {f : Nat} {l1 : Int32} {l2 : Int32} {σ : J} (hk2 : ∀ {l1 : Int32} {l2 : Int32} {σ : J}, k2 l1 l2 σ = some r0 → q_ex q_pr n 0 41 2 (q_L [(0, .inr (.inr (some (2, 0)))), (1, .inl l1), (2, .inl l2)]) [] σ (Board_lookUp_r r0)) (h : Board_lookUp_b2 n k2 f l1 l2 σ = some r0) : q_ex q_pr n 0 41 2 (q_L [(0, .inr (.inr (some (2, 0)))), (1, .inl l1), (2, .inl l2)]) [] σ (Board_lookUp_r r0) := by
  unfold Board_lookUp_b2 at h
  refine q_ex_br 4 (c := (σ.1 2 1 0) ≤ l2) (pc1 := 48) (pc2 := 10) (L' := (q_L [(0, .inr (.inr (some (2, 0)))), (1, .inl l1), (2, .inl l2)])) (st' := []) (σ' := σ) (fun _ => rfl) (fun hc => ?_) (fun hc => ?_)
  · rw [if_pos hc] at h
    refine q_ex_go 1 (pc' := 49) (L' := (q_L [(0, .inr (.inr (some (2, 0)))), (1, .inl l1), (2, .inl l2)])) (st' := [.inr (.inr none)]) (σ' := σ) (fun _ => rfl) ?_
    cases h
    exact ⟨1, rfl⟩
  · rw [if_neg hc] at h
    refine q_by h (fun hz h => ?_)
    refine q_by h (fun hy h => ?_)
    refine q_ex_g2 4 (pc' := 16) (L' := (q_L [(0, .inr (.inr (some (2, 0)))), (1, .inl l1), (2, .inl l2)])) (st' := [.inr (.inr (some (4, σ.2.2.2 3 0 l2.toNatClampNeg)))]) (σ' := σ) (fun _ => rfl) hz hy ?_
    refine q_ex_br 2 (c := (σ.1 4 0 (σ.2.2.2 3 0 l2.toNatClampNeg)) = 0) (pc1 := 42) (pc2 := 22) (L' := (q_L [(0, .inr (.inr (some (2, 0)))), (1, .inl l1), (2, .inl l2)])) (st' := []) (σ' := σ) (fun _ => rfl) (fun hc => ?_) (fun hc => ?_)
    · rw [if_pos hc] at h
      exact q_ex_ll (Board_lookUp_b42_e hk2 h) ⟨rfl, rfl, rfl, trivial⟩
    · rw [if_neg hc] at h
      refine q_by h (fun hz h => ?_)
      refine q_by h (fun hy h => ?_)
      refine q_ex_g2 4 (pc' := 28) (L' := (q_L [(0, .inr (.inr (some (2, 0)))), (1, .inl l1), (2, .inl l2)])) (st' := [.inr (.inr (some (4, σ.2.2.2 3 0 l2.toNatClampNeg)))]) (σ' := σ) (fun _ => rfl) hz hy ?_
      refine q_ex_br 3 (c := (σ.1 4 1 (σ.2.2.2 3 0 l2.toNatClampNeg)) = l1) (pc1 := 35) (pc2 := 42) (L' := (q_L [(0, .inr (.inr (some (2, 0)))), (1, .inl l1), (2, .inl l2)])) (st' := []) (σ' := σ) (fun _ => rfl) (fun hc => ?_) (fun hc => ?_)
      · rw [if_pos hc] at h
        refine q_by h (fun hz h => ?_)
        refine q_by h (fun hy h => ?_)
        refine q_ex_g2 4 (pc' := 41) (L' := (q_L [(0, .inr (.inr (some (2, 0)))), (1, .inl l1), (2, .inl l2)])) (st' := [.inr (.inr (some (4, σ.2.2.2 3 0 l2.toNatClampNeg)))]) (σ' := σ) (fun _ => rfl) hz hy ?_
        cases h
        exact ⟨1, rfl⟩
      · rw [if_neg hc] at h
        exact q_ex_ll (Board_lookUp_b42_e hk2 h) ⟨rfl, rfl, rfl, trivial⟩
theorem Board_lookUp_L2_e {n : Nat} {r0 : (Option Nat) × J} (f : Nat) : ∀ {l1 : Int32} {l2 : Int32} {σ : J}, Board_lookUp_L2 n f l1 l2 σ = some r0 → q_ex q_pr n 0 41 2 (q_L [(0, .inr (.inr (some (2, 0)))), (1, .inl l1), (2, .inl l2)]) [] σ (Board_lookUp_r r0) := by
  induction f with
  | zero => intro l1 l2 σ h; cases h
  | succ f ih =>
    intro l1 l2 σ h
    exact Board_lookUp_b2_e (f := f) (fun h => ih h) h
theorem Board_lookUp_b0_e {n : Nat} {r0 : (Option Nat) × J} {f : Nat} {l1 : Int32} {σ : J} (h : Board_lookUp_b0 n f l1 σ = some r0) : q_ex q_pr n 0 41 0 (q_L [(0, .inr (.inr (some (2, 0)))), (1, .inl l1)]) [] σ (Board_lookUp_r r0) := by
  unfold Board_lookUp_b0 at h
  refine q_ex_go 2 (pc' := 2) (L' := (q_s1 (q_L [(0, .inr (.inr (some (2, 0)))), (1, .inl l1)]) 2 (.inl 0))) (st' := []) (σ' := σ) (fun _ => rfl) ?_
  exact q_ex_ll (Board_lookUp_L2_e f h) ⟨rfl, rfl, rfl, trivial⟩
theorem Board_lookUp_e {n : Nat} {r0 : (Option Nat) × J} {f : Nat} {x1 : Int32} {σ : J} (h : Board_lookUp n f x1 σ = some r0) : q_ex q_pr n 0 41 0 (q_args 0 [.inr (.inr (some (2, 0))), .inl x1]) [] σ (Board_lookUp_r r0) := q_ex_ll (Board_lookUp_b0_e h) ⟨rfl, rfl, trivial⟩
def Board_handOver_r : J → Res := fun σ => (.inl none, σ)
-- 39: Board_handOver
def Board_handOver_b56 (n : Nat) (k2 : Int32 → Int32 → Int32 → J → Option (J)) (f : Nat) (l1 : Int32) (l2 : Int32) (l3 : Int32) (σ : J) : Option (J) := k2 l1 l2 (l3 + 1) σ
def Board_handOver_b37 (n : Nat) (k2 : Int32 → Int32 → Int32 → J → Option (J)) (f : Nat) (l1 : Int32) (l2 : Int32) (l3 : Int32) (l4 : Nat) (σ : J) : Option (J) := (Tuple_isTakenBy n l4 l1 l2 σ).bind fun q3 => if q3.1 = 0 then Board_handOver_b56 n k2 f l1 l2 l3 q3.2 else (Tuple_takeFor n l4 l1 (l2 - 1) q3.2).bind fun q4 => Board_handOver_b56 n k2 f l1 l2 l3 q4
def Board_handOver_b2 (n : Nat) (k2 : Int32 → Int32 → Int32 → J → Option (J)) (f : Nat) (l1 : Int32) (l2 : Int32) (l3 : Int32) (σ : J) : Option (J) := if (σ.1 2 1 0) ≤ l3 then some σ else if q_in l3 20 = true then if Nat.blt (σ.2.2.2 3 0 l3.toNatClampNeg) 20 = true then (Tuple_isPutIn n (σ.2.2.2 3 0 l3.toNatClampNeg) l1 l2 σ).bind fun q1 => if q1.1 = 0 then Board_handOver_b37 n k2 f l1 l2 l3 (σ.2.2.2 3 0 l3.toNatClampNeg) q1.2 else (Tuple_putInto n (σ.2.2.2 3 0 l3.toNatClampNeg) l1 (l2 - 1) q1.2).bind fun q2 => Board_handOver_b37 n k2 f l1 l2 l3 (σ.2.2.2 3 0 l3.toNatClampNeg) q2 else none else none
def Board_handOver_L2 (n : Nat) : Nat → Int32 → Int32 → Int32 → J → Option (J)
  | 0 => fun _ _ _ _ => none
  | f + 1 => fun l1 l2 l3 σ => Board_handOver_b2 n (Board_handOver_L2 n f) f l1 l2 l3 σ
def Board_handOver_b0 (n : Nat) (f : Nat) (l1 : Int32) (l2 : Int32) (σ : J) : Option (J) := Board_handOver_L2 n f l1 l2 0 σ
def Board_handOver (n : Nat) (f : Nat) (x1 : Int32) (x2 : Int32) (σ : J) : Option (J) := Board_handOver_b0 n f x1 x2 σ
theorem Board_handOver_b56_e {n : Nat} {r0 : J} {k2 : Int32 → Int32 → Int32 → J → Option (J)} {f : Nat} {l1 : Int32} {l2 : Int32} {l3 : Int32} {σ : J} (hk2 : ∀ {l1 : Int32} {l2 : Int32} {l3 : Int32} {σ : J}, k2 l1 l2 l3 σ = some r0 → q_ex q_pr n 1 39 2 (q_L [(0, .inr (.inr (some (2, 0)))), (1, .inl l1), (2, .inl l2), (3, .inl l3)]) [] σ (Board_handOver_r r0)) (h : Board_handOver_b56 n k2 f l1 l2 l3 σ = some r0) : q_ex q_pr n 1 39 56 (q_L [(0, .inr (.inr (some (2, 0)))), (1, .inl l1), (2, .inl l2), (3, .inl l3)]) [] σ (Board_handOver_r r0) := by
  unfold Board_handOver_b56 at h
  refine q_ex_go 2 (pc' := 2) (L' := (q_s1 (q_L [(0, .inr (.inr (some (2, 0)))), (1, .inl l1), (2, .inl l2), (3, .inl l3)]) 3 (.inl (l3 + 1)))) (st' := []) (σ' := σ) (fun _ => rfl) ?_
  exact q_ex_ll (hk2 h) ⟨rfl, rfl, rfl, rfl, trivial⟩
theorem Board_handOver_b37_e {n : Nat} {r0 : J} {k2 : Int32 → Int32 → Int32 → J → Option (J)} {f : Nat} {l1 : Int32} {l2 : Int32} {l3 : Int32} {l4 : Nat} {σ : J} (hk2 : ∀ {l1 : Int32} {l2 : Int32} {l3 : Int32} {σ : J}, k2 l1 l2 l3 σ = some r0 → q_ex q_pr n 1 39 2 (q_L [(0, .inr (.inr (some (2, 0)))), (1, .inl l1), (2, .inl l2), (3, .inl l3)]) [] σ (Board_handOver_r r0)) (h : Board_handOver_b37 n k2 f l1 l2 l3 l4 σ = some r0) : q_ex q_pr n 1 39 37 (q_L [(0, .inr (.inr (some (2, 0)))), (1, .inl l1), (2, .inl l2), (3, .inl l3), (4, .inr (.inr (some (4, l4))))]) [] σ (Board_handOver_r r0) := by
  unfold Board_handOver_b37 at h
  obtain ⟨q3, hq3, h⟩ := Option.bind_eq_some_iff.mp h
  refine q_ex_ca 4 (k1 := 75) (vs := [.inr (.inr (some (4, l4))), .inl l1, .inl l2]) (pc' := 44) (L' := (q_L [(0, .inr (.inr (some (2, 0)))), (1, .inl l1), (2, .inl l2), (3, .inl l3), (4, .inr (.inr (some (4, l4))))])) (rest := []) (σ' := σ) (fun _ => rfl) (q_ex_dd (Tuple_isTakenBy_e hq3) (Nat.le_of_ble_eq_true rfl)) rfl ?_
  refine q_ex_br 1 (c := q3.1 = 0) (pc1 := 56) (pc2 := 47) (L' := (q_L [(0, .inr (.inr (some (2, 0)))), (1, .inl l1), (2, .inl l2), (3, .inl l3), (4, .inr (.inr (some (4, l4))))])) (st' := []) (σ' := q3.2) (fun _ => rfl) (fun hc => ?_) (fun hc => ?_)
  · rw [if_pos hc] at h
    exact q_ex_ll (Board_handOver_b56_e hk2 h) ⟨rfl, rfl, rfl, rfl, trivial⟩
  · rw [if_neg hc] at h
    obtain ⟨q4, hq4, h⟩ := Option.bind_eq_some_iff.mp h
    refine q_ex_ca 6 (k1 := 78) (vs := [.inr (.inr (some (4, l4))), .inl l1, .inl (l2 - 1)]) (pc' := 56) (L' := (q_L [(0, .inr (.inr (some (2, 0)))), (1, .inl l1), (2, .inl l2), (3, .inl l3), (4, .inr (.inr (some (4, l4))))])) (rest := []) (σ' := q3.2) (fun _ => rfl) (q_ex_dd (Tuple_takeFor_e hq4) (Nat.le_of_ble_eq_true rfl)) rfl ?_
    exact q_ex_ll (Board_handOver_b56_e hk2 h) ⟨rfl, rfl, rfl, rfl, trivial⟩
theorem Board_handOver_b2_e {n : Nat} {r0 : J} {k2 : Int32 → Int32 → Int32 → J → Option (J)} {f : Nat} {l1 : Int32} {l2 : Int32} {l3 : Int32} {σ : J} (hk2 : ∀ {l1 : Int32} {l2 : Int32} {l3 : Int32} {σ : J}, k2 l1 l2 l3 σ = some r0 → q_ex q_pr n 1 39 2 (q_L [(0, .inr (.inr (some (2, 0)))), (1, .inl l1), (2, .inl l2), (3, .inl l3)]) [] σ (Board_handOver_r r0)) (h : Board_handOver_b2 n k2 f l1 l2 l3 σ = some r0) : q_ex q_pr n 1 39 2 (q_L [(0, .inr (.inr (some (2, 0)))), (1, .inl l1), (2, .inl l2), (3, .inl l3)]) [] σ (Board_handOver_r r0) := by
  unfold Board_handOver_b2 at h
  refine q_ex_br 4 (c := (σ.1 2 1 0) ≤ l3) (pc1 := 62) (pc2 := 10) (L' := (q_L [(0, .inr (.inr (some (2, 0)))), (1, .inl l1), (2, .inl l2), (3, .inl l3)])) (st' := []) (σ' := σ) (fun _ => rfl) (fun hc => ?_) (fun hc => ?_)
  · rw [if_pos hc] at h
    cases h
    exact ⟨1, rfl⟩
  · rw [if_neg hc] at h
    refine q_by h (fun hz h => ?_)
    refine q_by h (fun hy h => ?_)
    refine q_ex_g2 4 (pc' := 16) (L' := (q_L [(0, .inr (.inr (some (2, 0)))), (1, .inl l1), (2, .inl l2), (3, .inl l3)])) (st' := [.inr (.inr (some (4, σ.2.2.2 3 0 l3.toNatClampNeg)))]) (σ' := σ) (fun _ => rfl) hz hy ?_
    obtain ⟨q1, hq1, h⟩ := Option.bind_eq_some_iff.mp h
    refine q_ex_ca 5 (k1 := 72) (vs := [.inr (.inr (some (4, σ.2.2.2 3 0 l3.toNatClampNeg))), .inl l1, .inl l2]) (pc' := 25) (L' := (q_s1 (q_L [(0, .inr (.inr (some (2, 0)))), (1, .inl l1), (2, .inl l2), (3, .inl l3)]) 4 (.inr (.inr (some (4, σ.2.2.2 3 0 l3.toNatClampNeg)))))) (rest := []) (σ' := σ) (fun _ => rfl) (q_ex_dd (Tuple_isPutIn_e hq1) (Nat.le_of_ble_eq_true rfl)) rfl ?_
    refine q_ex_br 1 (c := q1.1 = 0) (pc1 := 37) (pc2 := 28) (L' := (q_s1 (q_L [(0, .inr (.inr (some (2, 0)))), (1, .inl l1), (2, .inl l2), (3, .inl l3)]) 4 (.inr (.inr (some (4, σ.2.2.2 3 0 l3.toNatClampNeg)))))) (st' := []) (σ' := q1.2) (fun _ => rfl) (fun hc => ?_) (fun hc => ?_)
    · rw [if_pos hc] at h
      exact q_ex_ll (Board_handOver_b37_e hk2 h) ⟨rfl, rfl, rfl, rfl, rfl, trivial⟩
    · rw [if_neg hc] at h
      obtain ⟨q2, hq2, h⟩ := Option.bind_eq_some_iff.mp h
      refine q_ex_ca 6 (k1 := 76) (vs := [.inr (.inr (some (4, σ.2.2.2 3 0 l3.toNatClampNeg))), .inl l1, .inl (l2 - 1)]) (pc' := 37) (L' := (q_s1 (q_L [(0, .inr (.inr (some (2, 0)))), (1, .inl l1), (2, .inl l2), (3, .inl l3)]) 4 (.inr (.inr (some (4, σ.2.2.2 3 0 l3.toNatClampNeg)))))) (rest := []) (σ' := q1.2) (fun _ => rfl) (q_ex_dd (Tuple_putInto_e hq2) (Nat.le_of_ble_eq_true rfl)) rfl ?_
      exact q_ex_ll (Board_handOver_b37_e hk2 h) ⟨rfl, rfl, rfl, rfl, rfl, trivial⟩
theorem Board_handOver_L2_e {n : Nat} {r0 : J} (f : Nat) : ∀ {l1 : Int32} {l2 : Int32} {l3 : Int32} {σ : J}, Board_handOver_L2 n f l1 l2 l3 σ = some r0 → q_ex q_pr n 1 39 2 (q_L [(0, .inr (.inr (some (2, 0)))), (1, .inl l1), (2, .inl l2), (3, .inl l3)]) [] σ (Board_handOver_r r0) := by
  induction f with
  | zero => intro l1 l2 l3 σ h; cases h
  | succ f ih =>
    intro l1 l2 l3 σ h
    exact Board_handOver_b2_e (f := f) (fun h => ih h) h
theorem Board_handOver_b0_e {n : Nat} {r0 : J} {f : Nat} {l1 : Int32} {l2 : Int32} {σ : J} (h : Board_handOver_b0 n f l1 l2 σ = some r0) : q_ex q_pr n 1 39 0 (q_L [(0, .inr (.inr (some (2, 0)))), (1, .inl l1), (2, .inl l2)]) [] σ (Board_handOver_r r0) := by
  unfold Board_handOver_b0 at h
  refine q_ex_go 2 (pc' := 2) (L' := (q_s1 (q_L [(0, .inr (.inr (some (2, 0)))), (1, .inl l1), (2, .inl l2)]) 3 (.inl 0))) (st' := []) (σ' := σ) (fun _ => rfl) ?_
  exact q_ex_ll (Board_handOver_L2_e f h) ⟨rfl, rfl, rfl, rfl, trivial⟩
theorem Board_handOver_e {n : Nat} {r0 : J} {f : Nat} {x1 : Int32} {x2 : Int32} {σ : J} (h : Board_handOver n f x1 x2 σ = some r0) : q_ex q_pr n 1 39 0 (q_args 0 [.inr (.inr (some (2, 0))), .inl x1, .inl x2]) [] σ (Board_handOver_r r0) := q_ex_ll (Board_handOver_b0_e h) ⟨rfl, rfl, rfl, trivial⟩
def Session_hasPatterns_r : (Int32) × J → Res := fun q => (.inl (some (.inl q.1)), q.2)
-- 68: Session_hasPatterns
def Session_hasPatterns_b10 (n : Nat) (f : Nat) (σ : J) : Option ((Int32) × J) := if (0 : Int32) &&& 1 = 0 then some (0, σ) else none
def Session_hasPatterns_b14 (n : Nat) (k14 : Nat → Int32 → Int32 → J → Option ((Int32) × J)) (f : Nat) (l0 : Nat) (l1 : Int32) (l2 : Int32) (σ : J) : Option ((Int32) × J) := if l1 ≤ l2 then if (1 : Int32) &&& 1 = 1 then some (1, σ) else none else if q_in l2 3 = true then if Nat.blt (σ.2.2.2 17 l0 l2.toNatClampNeg) (6 + 3 * n) = true then if (σ.1 8 0 (σ.2.2.2 17 l0 l2.toNatClampNeg)) = 0 then if (0 : Int32) &&& 1 = 0 then some (0, σ) else none else k14 l0 l1 (l2 + 1) σ else none else none
def Session_hasPatterns_L14 (n : Nat) : Nat → Nat → Int32 → Int32 → J → Option ((Int32) × J)
  | 0 => fun _ _ _ _ => none
  | f + 1 => fun l0 l1 l2 σ => Session_hasPatterns_b14 n (Session_hasPatterns_L14 n f) f l0 l1 l2 σ
def Session_hasPatterns_b0 (n : Nat) (f : Nat) (l0 : Nat) (l1 : Int32) (σ : J) : Option ((Int32) × J) := if l1 < 1 then Session_hasPatterns_b10 n f σ else if l1 ≤ 3 then Session_hasPatterns_L14 n f l0 l1 0 σ else Session_hasPatterns_b10 n f σ
def Session_hasPatterns (n : Nat) (f : Nat) (x0 : Nat) (x1 : Int32) (σ : J) : Option ((Int32) × J) := Session_hasPatterns_b0 n f x0 x1 σ
theorem Session_hasPatterns_b10_e {n : Nat} {r0 : (Int32) × J} {f : Nat} {σ : J} (h : Session_hasPatterns_b10 n f σ = some r0) : q_ex q_pr n 0 68 10 (q_L []) [] σ (Session_hasPatterns_r r0) := by
  unfold Session_hasPatterns_b10 at h
  refine q_ex_go 1 (pc' := 11) (L' := (q_L [])) (st' := [.inl 0]) (σ' := σ) (fun _ => rfl) ?_
  refine q_by h (fun hz h => ?_)
  cases h
  exact ⟨1, if_pos (e := (none : Option Res)) hz⟩
theorem Session_hasPatterns_b14_e {n : Nat} {r0 : (Int32) × J} {k14 : Nat → Int32 → Int32 → J → Option ((Int32) × J)} {f : Nat} {l0 : Nat} {l1 : Int32} {l2 : Int32} {σ : J} (hk14 : ∀ {l0 : Nat} {l1 : Int32} {l2 : Int32} {σ : J}, k14 l0 l1 l2 σ = some r0 → q_ex q_pr n 0 68 14 (q_L [(0, .inr (.inr (some (16, l0)))), (1, .inl l1), (2, .inl l2)]) [] σ (Session_hasPatterns_r r0)) (h : Session_hasPatterns_b14 n k14 f l0 l1 l2 σ = some r0) : q_ex q_pr n 0 68 14 (q_L [(0, .inr (.inr (some (16, l0)))), (1, .inl l1), (2, .inl l2)]) [] σ (Session_hasPatterns_r r0) := by
  unfold Session_hasPatterns_b14 at h
  refine q_ex_br 3 (c := l1 ≤ l2) (pc1 := 39) (pc2 := 19) (L' := (q_L [(0, .inr (.inr (some (16, l0)))), (1, .inl l1), (2, .inl l2)])) (st' := []) (σ' := σ) (fun _ => rfl) (fun hc => ?_) (fun hc => ?_)
  · rw [if_pos hc] at h
    refine q_ex_go 1 (pc' := 40) (L' := (q_L [(0, .inr (.inr (some (16, l0)))), (1, .inl l1), (2, .inl l2)])) (st' := [.inl 1]) (σ' := σ) (fun _ => rfl) ?_
    refine q_by h (fun hz h => ?_)
    cases h
    exact ⟨1, if_pos (e := (none : Option Res)) hz⟩
  · rw [if_neg hc] at h
    refine q_by h (fun hz h => ?_)
    refine q_by h (fun hy h => ?_)
    refine q_ex_g2 4 (pc' := 25) (L' := (q_L [(0, .inr (.inr (some (16, l0)))), (1, .inl l1), (2, .inl l2)])) (st' := [.inr (.inr (some (8, σ.2.2.2 17 l0 l2.toNatClampNeg)))]) (σ' := σ) (fun _ => rfl) hz hy ?_
    refine q_ex_br 2 (c := (σ.1 8 0 (σ.2.2.2 17 l0 l2.toNatClampNeg)) = 0) (pc1 := 31) (pc2 := 33) (L' := (q_L [(0, .inr (.inr (some (16, l0)))), (1, .inl l1), (2, .inl l2)])) (st' := []) (σ' := σ) (fun _ => rfl) (fun hc => ?_) (fun hc => ?_)
    · rw [if_pos hc] at h
      refine q_ex_go 1 (pc' := 32) (L' := (q_L [(0, .inr (.inr (some (16, l0)))), (1, .inl l1), (2, .inl l2)])) (st' := [.inl 0]) (σ' := σ) (fun _ => rfl) ?_
      refine q_by h (fun hz h => ?_)
      cases h
      exact ⟨1, if_pos (e := (none : Option Res)) hz⟩
    · rw [if_neg hc] at h
      refine q_ex_go 2 (pc' := 14) (L' := (q_s1 (q_L [(0, .inr (.inr (some (16, l0)))), (1, .inl l1), (2, .inl l2)]) 2 (.inl (l2 + 1)))) (st' := []) (σ' := σ) (fun _ => rfl) ?_
      exact q_ex_ll (hk14 h) ⟨rfl, rfl, rfl, trivial⟩
theorem Session_hasPatterns_L14_e {n : Nat} {r0 : (Int32) × J} (f : Nat) : ∀ {l0 : Nat} {l1 : Int32} {l2 : Int32} {σ : J}, Session_hasPatterns_L14 n f l0 l1 l2 σ = some r0 → q_ex q_pr n 0 68 14 (q_L [(0, .inr (.inr (some (16, l0)))), (1, .inl l1), (2, .inl l2)]) [] σ (Session_hasPatterns_r r0) := by
  induction f with
  | zero => intro l0 l1 l2 σ h; cases h
  | succ f ih =>
    intro l0 l1 l2 σ h
    exact Session_hasPatterns_b14_e (f := f) (fun h => ih h) h
theorem Session_hasPatterns_b0_e {n : Nat} {r0 : (Int32) × J} {f : Nat} {l0 : Nat} {l1 : Int32} {σ : J} (h : Session_hasPatterns_b0 n f l0 l1 σ = some r0) : q_ex q_pr n 0 68 0 (q_L [(0, .inr (.inr (some (16, l0)))), (1, .inl l1)]) [] σ (Session_hasPatterns_r r0) := by
  unfold Session_hasPatterns_b0 at h
  refine q_ex_br 3 (c := l1 < 1) (pc1 := 10) (pc2 := 5) (L' := (q_L [(0, .inr (.inr (some (16, l0)))), (1, .inl l1)])) (st' := []) (σ' := σ) (fun _ => rfl) (fun hc => ?_) (fun hc => ?_)
  · rw [if_pos hc] at h
    exact q_ex_ll (Session_hasPatterns_b10_e h) trivial
  · rw [if_neg hc] at h
    refine q_ex_br 3 (c := l1 ≤ 3) (pc1 := 12) (pc2 := 10) (L' := (q_L [(0, .inr (.inr (some (16, l0)))), (1, .inl l1)])) (st' := []) (σ' := σ) (fun _ => rfl) (fun hc => ?_) (fun hc => ?_)
    · rw [if_pos hc] at h
      refine q_ex_go 2 (pc' := 14) (L' := (q_s1 (q_L [(0, .inr (.inr (some (16, l0)))), (1, .inl l1)]) 2 (.inl 0))) (st' := []) (σ' := σ) (fun _ => rfl) ?_
      exact q_ex_ll (Session_hasPatterns_L14_e f h) ⟨rfl, rfl, rfl, trivial⟩
    · rw [if_neg hc] at h
      exact q_ex_ll (Session_hasPatterns_b10_e h) trivial
theorem Session_hasPatterns_e {n : Nat} {r0 : (Int32) × J} {f : Nat} {x0 : Nat} {x1 : Int32} {σ : J} (h : Session_hasPatterns n f x0 x1 σ = some r0) : q_ex q_pr n 0 68 0 (q_args 0 [.inr (.inr (some (16, x0))), .inl x1]) [] σ (Session_hasPatterns_r r0) := q_ex_ll (Session_hasPatterns_b0_e h) ⟨rfl, rfl, trivial⟩
def Session_ask_r : J → Res := fun σ => (.inl none, σ)
-- 67: Session_ask
def Session_ask_b0 (n : Nat) (f : Nat) (l0 : Nat) (l1 : Int32) (l2 : Int32) (σ : J) : Option (J) := q_bs (q_sI σ 16 6 l0 l1) fun σ1 => if l2 &&& 1 = l2 then q_bs (q_sI σ1 16 7 l0 l2) fun σ2 => q_bs (q_sI σ2 16 5 l0 0) fun σ3 => (Finding_clear n f (l0 + 1) σ3).bind fun q4 => some q4 else none
def Session_ask (n : Nat) (f : Nat) (x0 : Nat) (x1 : Int32) (x2 : Int32) (σ : J) : Option (J) := Session_ask_b0 n f x0 x1 x2 σ
theorem Session_ask_b0_e {n : Nat} {r0 : J} {f : Nat} {l0 : Nat} {l1 : Int32} {l2 : Int32} {σ : J} (h : Session_ask_b0 n f l0 l1 l2 σ = some r0) : q_ex q_pr n 1 67 0 (q_L [(0, .inr (.inr (some (16, l0)))), (1, .inl l1), (2, .inl l2)]) [] σ (Session_ask_r r0) := by
  unfold Session_ask_b0 at h
  refine q_ex_go 3 (pc' := 5) (L' := (q_L [(0, .inr (.inr (some (16, l0)))), (1, .inl l1), (2, .inl l2)])) (st' := []) (σ' := (q_sI σ 16 6 l0 l1)) (fun _ => rfl) ?_
  refine q_nm (G := fun τ => q_ex q_pr n _ 67 5 (q_L [(0, .inr (.inr (some (16, l0)))), (1, .inl l1), (2, .inl l2)]) [] τ _) h (fun σ1 h => ?_)
  refine q_by h (fun hz h => ?_)
  refine q_ex_gi 3 (pc' := 10) (L' := (q_L [(0, .inr (.inr (some (16, l0)))), (1, .inl l1), (2, .inl l2)])) (st' := []) (σ' := (q_sI σ1 16 7 l0 l2)) (fun _ => rfl) hz ?_
  refine q_nm (G := fun τ => q_ex q_pr n _ 67 10 (q_L [(0, .inr (.inr (some (16, l0)))), (1, .inl l1), (2, .inl l2)]) [] τ _) h (fun σ2 h => ?_)
  refine q_ex_go 3 (pc' := 15) (L' := (q_L [(0, .inr (.inr (some (16, l0)))), (1, .inl l1), (2, .inl l2)])) (st' := []) (σ' := (q_sI σ2 16 5 l0 0)) (fun _ => rfl) ?_
  refine q_nm (G := fun τ => q_ex q_pr n _ 67 15 (q_L [(0, .inr (.inr (some (16, l0)))), (1, .inl l1), (2, .inl l2)]) [] τ _) h (fun σ3 h => ?_)
  obtain ⟨q4, hq4, h⟩ := Option.bind_eq_some_iff.mp h
  refine q_ex_ca 3 (k1 := 49) (vs := [.inr (.inr (some (12, (l0 + 1))))]) (pc' := 22) (L' := (q_L [(0, .inr (.inr (some (16, l0)))), (1, .inl l1), (2, .inl l2)])) (rest := []) (σ' := σ3) (fun _ => rfl) (q_ex_dd (Finding_clear_e hq4) (Nat.le_of_ble_eq_true rfl)) rfl ?_
  cases h
  exact ⟨1, rfl⟩
theorem Session_ask_e {n : Nat} {r0 : J} {f : Nat} {x0 : Nat} {x1 : Int32} {x2 : Int32} {σ : J} (h : Session_ask n f x0 x1 x2 σ = some r0) : q_ex q_pr n 1 67 0 (q_args 0 [.inr (.inr (some (16, x0))), .inl x1, .inl x2]) [] σ (Session_ask_r r0) := q_ex_ll (Session_ask_b0_e h) ⟨rfl, rfl, rfl, trivial⟩
def Pattern_empty_r : (Int32) × J → Res := fun q => (.inl (some (.inl q.1)), q.2)
-- 63: Pattern_empty
def Pattern_empty_b0 (n : Nat) (l0 : Nat) (σ : J) : Option ((Int32) × J) := q_bs (q_sI σ 8 0 l0 0) fun σ1 => some (σ.1 8 0 l0, σ1)
def Pattern_empty (n : Nat) (x0 : Nat) (σ : J) : Option ((Int32) × J) := Pattern_empty_b0 n x0 σ
theorem Pattern_empty_b0_e {n : Nat} {r0 : (Int32) × J} {l0 : Nat} {σ : J} (h : Pattern_empty_b0 n l0 σ = some r0) : q_ex q_pr n 0 63 0 (q_L [(0, .inr (.inr (some (8, l0))))]) [] σ (Pattern_empty_r r0) := by
  unfold Pattern_empty_b0 at h
  refine q_ex_go 6 (pc' := 10) (L' := (q_s1 (q_L [(0, .inr (.inr (some (8, l0))))]) 1 (.inl (σ.1 8 0 l0)))) (st' := []) (σ' := (q_sI σ 8 0 l0 0)) (fun _ => rfl) ?_
  refine q_nm (G := fun τ => q_ex q_pr n _ 63 10 (q_s1 (q_L [(0, .inr (.inr (some (8, l0))))]) 1 (.inl (σ.1 8 0 l0))) [] τ _) h (fun σ1 h => ?_)
  refine q_ex_go 1 (pc' := 11) (L' := (q_s1 (q_L [(0, .inr (.inr (some (8, l0))))]) 1 (.inl (σ.1 8 0 l0)))) (st' := [.inl (σ.1 8 0 l0)]) (σ' := σ1) (fun _ => rfl) ?_
  cases h
  exact ⟨1, rfl⟩
theorem Pattern_empty_e {n : Nat} {r0 : (Int32) × J} {x0 : Nat} {σ : J} (h : Pattern_empty n x0 σ = some r0) : q_ex q_pr n 0 63 0 (q_args 0 [.inr (.inr (some (8, x0)))]) [] σ (Pattern_empty_r r0) := q_ex_ll (Pattern_empty_b0_e h) ⟨rfl, trivial⟩
def Pattern_isForm_r : (Int32) × J → Res := fun q => (.inl (some (.inl q.1)), q.2)
-- 66: Pattern_isForm
def Pattern_isForm_b71 (n : Nat) (s0 : Int32) (σ : J) : Option ((Int32) × J) := if s0 &&& 1 = s0 then some (s0, σ) else none
def Pattern_isForm_b70 (n : Nat) (σ : J) : Option ((Int32) × J) := Pattern_isForm_b71 n 0 σ
def Pattern_isForm_b52 (n : Nat) (l1 : Int64) (σ : J) : Option ((Int32) × J) := if (lg_cmp l1 0) < 0 then Pattern_isForm_b70 n σ else if 0 < (lg_cmp l1 2) then Pattern_isForm_b70 n σ else Pattern_isForm_b71 n 1 σ
def Pattern_isForm_b127 (n : Nat) (s0 : Int32) (σ : J) : Option ((Int32) × J) := if s0 &&& 1 = s0 then some (s0, σ) else none
def Pattern_isForm_b126 (n : Nat) (σ : J) : Option ((Int32) × J) := Pattern_isForm_b127 n 0 σ
def Pattern_isForm_b112 (n : Nat) (l0 : Int32) (σ : J) : Option ((Int32) × J) := if l0 < 0 then Pattern_isForm_b126 n σ else if 9 < l0 then Pattern_isForm_b126 n σ else Pattern_isForm_b127 n 1 σ
def Pattern_isForm_b91 (n : Nat) (s0 : Int32) (σ : J) : Option ((Int32) × J) := if s0 &&& 1 = s0 then some (s0, σ) else none
def Pattern_isForm_b90 (n : Nat) (σ : J) : Option ((Int32) × J) := Pattern_isForm_b91 n 0 σ
def Pattern_isForm_b111 (n : Nat) (s0 : Int32) (σ : J) : Option ((Int32) × J) := if s0 &&& 1 = s0 then some (s0, σ) else none
def Pattern_isForm_b110 (n : Nat) (σ : J) : Option ((Int32) × J) := Pattern_isForm_b111 n 0 σ
def Pattern_isForm_b0 (n : Nat) (l0 : Int32) (l1 : Int64) (σ : J) : Option ((Int32) × J) := if l0 = Int32.ofNat 1 then Pattern_isForm_b52 n l1 σ else if l0 = Int32.ofNat 2 then Pattern_isForm_b52 n l1 σ else if l0 = Int32.ofNat 3 then Pattern_isForm_b52 n l1 σ else if l0 = Int32.ofNat 4 then Pattern_isForm_b112 n l0 σ else if l0 = Int32.ofNat 5 then Pattern_isForm_b112 n l0 σ else if l0 = Int32.ofNat 6 then Pattern_isForm_b112 n l0 σ else if l0 = Int32.ofNat 7 then if (lg_cmp l1 0) < 0 then Pattern_isForm_b90 n σ else if 0 ≤ (lg_cmp l1 4) then Pattern_isForm_b90 n σ else Pattern_isForm_b91 n 1 σ else if l0 = Int32.ofNat 8 then if (lg_cmp l1 0) < 0 then Pattern_isForm_b110 n σ else if 0 ≤ (lg_cmp l1 2) then Pattern_isForm_b110 n σ else Pattern_isForm_b111 n 1 σ else if l0 = Int32.ofNat 9 then Pattern_isForm_b52 n l1 σ else Pattern_isForm_b112 n l0 σ
def Pattern_isForm (n : Nat) (x0 : Int32) (x1 : Int64) (σ : J) : Option ((Int32) × J) := Pattern_isForm_b0 n x0 x1 σ
theorem Pattern_isForm_b71_e {n : Nat} {r0 : (Int32) × J} {s0 : Int32} {σ : J} (h : Pattern_isForm_b71 n s0 σ = some r0) : q_ex q_pr n 0 66 71 (q_L []) [.inl s0] σ (Pattern_isForm_r r0) := by
  unfold Pattern_isForm_b71 at h
  refine q_by h (fun hz h => ?_)
  cases h
  exact ⟨1, if_pos (e := (none : Option Res)) hz⟩
theorem Pattern_isForm_b70_e {n : Nat} {r0 : (Int32) × J} {σ : J} (h : Pattern_isForm_b70 n σ = some r0) : q_ex q_pr n 0 66 70 (q_L []) [] σ (Pattern_isForm_r r0) := by
  unfold Pattern_isForm_b70 at h
  refine q_ex_go 1 (pc' := 71) (L' := (q_L [])) (st' := [.inl 0]) (σ' := σ) (fun _ => rfl) ?_
  exact q_ex_ll (Pattern_isForm_b71_e h) trivial
theorem Pattern_isForm_b52_e {n : Nat} {r0 : (Int32) × J} {l1 : Int64} {σ : J} (h : Pattern_isForm_b52 n l1 σ = some r0) : q_ex q_pr n 0 66 52 (q_L [(1, .inr (.inl l1))]) [] σ (Pattern_isForm_r r0) := by
  unfold Pattern_isForm_b52 at h
  refine q_ex_br 4 (c := (lg_cmp l1 0) < 0) (pc1 := 70) (pc2 := 58) (L' := (q_L [(1, .inr (.inl l1))])) (st' := []) (σ' := σ) (fun _ => rfl) (fun hc => ?_) (fun hc => ?_)
  · rw [if_pos hc] at h
    exact q_ex_ll (Pattern_isForm_b70_e h) trivial
  · rw [if_neg hc] at h
    refine q_ex_br 4 (c := 0 < (lg_cmp l1 2)) (pc1 := 70) (pc2 := 66) (L' := (q_L [(1, .inr (.inl l1))])) (st' := []) (σ' := σ) (fun _ => rfl) (fun hc => ?_) (fun hc => ?_)
    · rw [if_pos hc] at h
      exact q_ex_ll (Pattern_isForm_b70_e h) trivial
    · rw [if_neg hc] at h
      refine q_ex_go 2 (pc' := 71) (L' := (q_L [(1, .inr (.inl l1))])) (st' := [.inl 1]) (σ' := σ) (fun _ => rfl) ?_
      exact q_ex_ll (Pattern_isForm_b71_e h) trivial
theorem Pattern_isForm_b127_e {n : Nat} {r0 : (Int32) × J} {s0 : Int32} {σ : J} (h : Pattern_isForm_b127 n s0 σ = some r0) : q_ex q_pr n 0 66 127 (q_L []) [.inl s0] σ (Pattern_isForm_r r0) := by
  unfold Pattern_isForm_b127 at h
  refine q_by h (fun hz h => ?_)
  cases h
  exact ⟨1, if_pos (e := (none : Option Res)) hz⟩
theorem Pattern_isForm_b126_e {n : Nat} {r0 : (Int32) × J} {σ : J} (h : Pattern_isForm_b126 n σ = some r0) : q_ex q_pr n 0 66 126 (q_L []) [] σ (Pattern_isForm_r r0) := by
  unfold Pattern_isForm_b126 at h
  refine q_ex_go 1 (pc' := 127) (L' := (q_L [])) (st' := [.inl 0]) (σ' := σ) (fun _ => rfl) ?_
  exact q_ex_ll (Pattern_isForm_b127_e h) trivial
theorem Pattern_isForm_b112_e {n : Nat} {r0 : (Int32) × J} {l0 : Int32} {σ : J} (h : Pattern_isForm_b112 n l0 σ = some r0) : q_ex q_pr n 0 66 112 (q_L [(0, .inl l0)]) [] σ (Pattern_isForm_r r0) := by
  unfold Pattern_isForm_b112 at h
  refine q_ex_br 2 (c := l0 < 0) (pc1 := 126) (pc2 := 116) (L' := (q_L [(0, .inl l0)])) (st' := []) (σ' := σ) (fun _ => rfl) (fun hc => ?_) (fun hc => ?_)
  · rw [if_pos hc] at h
    exact q_ex_ll (Pattern_isForm_b126_e h) trivial
  · rw [if_neg hc] at h
    refine q_ex_br 3 (c := 9 < l0) (pc1 := 126) (pc2 := 122) (L' := (q_L [(0, .inl l0)])) (st' := []) (σ' := σ) (fun _ => rfl) (fun hc => ?_) (fun hc => ?_)
    · rw [if_pos hc] at h
      exact q_ex_ll (Pattern_isForm_b126_e h) trivial
    · rw [if_neg hc] at h
      refine q_ex_go 2 (pc' := 127) (L' := (q_L [(0, .inl l0)])) (st' := [.inl 1]) (σ' := σ) (fun _ => rfl) ?_
      exact q_ex_ll (Pattern_isForm_b127_e h) trivial
theorem Pattern_isForm_b91_e {n : Nat} {r0 : (Int32) × J} {s0 : Int32} {σ : J} (h : Pattern_isForm_b91 n s0 σ = some r0) : q_ex q_pr n 0 66 91 (q_L []) [.inl s0] σ (Pattern_isForm_r r0) := by
  unfold Pattern_isForm_b91 at h
  refine q_by h (fun hz h => ?_)
  cases h
  exact ⟨1, if_pos (e := (none : Option Res)) hz⟩
theorem Pattern_isForm_b90_e {n : Nat} {r0 : (Int32) × J} {σ : J} (h : Pattern_isForm_b90 n σ = some r0) : q_ex q_pr n 0 66 90 (q_L []) [] σ (Pattern_isForm_r r0) := by
  unfold Pattern_isForm_b90 at h
  refine q_ex_go 1 (pc' := 91) (L' := (q_L [])) (st' := [.inl 0]) (σ' := σ) (fun _ => rfl) ?_
  exact q_ex_ll (Pattern_isForm_b91_e h) trivial
theorem Pattern_isForm_b111_e {n : Nat} {r0 : (Int32) × J} {s0 : Int32} {σ : J} (h : Pattern_isForm_b111 n s0 σ = some r0) : q_ex q_pr n 0 66 111 (q_L []) [.inl s0] σ (Pattern_isForm_r r0) := by
  unfold Pattern_isForm_b111 at h
  refine q_by h (fun hz h => ?_)
  cases h
  exact ⟨1, if_pos (e := (none : Option Res)) hz⟩
theorem Pattern_isForm_b110_e {n : Nat} {r0 : (Int32) × J} {σ : J} (h : Pattern_isForm_b110 n σ = some r0) : q_ex q_pr n 0 66 110 (q_L []) [] σ (Pattern_isForm_r r0) := by
  unfold Pattern_isForm_b110 at h
  refine q_ex_go 1 (pc' := 111) (L' := (q_L [])) (st' := [.inl 0]) (σ' := σ) (fun _ => rfl) ?_
  exact q_ex_ll (Pattern_isForm_b111_e h) trivial
theorem Pattern_isForm_b0_e {n : Nat} {r0 : (Int32) × J} {l0 : Int32} {l1 : Int64} {σ : J} (h : Pattern_isForm_b0 n l0 l1 σ = some r0) : q_ex q_pr n 0 66 0 (q_L [(0, .inl l0), (1, .inr (.inl l1))]) [] σ (Pattern_isForm_r r0) := by
  unfold Pattern_isForm_b0 at h
  refine q_ex_sw 2 (x := l0) (lo := 1) (ts := [52, 52, 52, 112, 112, 112, 72, 92, 52]) (t := 112) (L' := (q_L [(0, .inl l0), (1, .inr (.inl l1))])) (st' := []) (σ' := σ) (fun _ => rfl) ?_
  refine q_sw_c (fun (hc : l0 = Int32.ofNat 1) => ?_) (fun (hc : ¬ l0 = Int32.ofNat 1) => ?_)
  · rw [if_pos hc] at h
    exact q_ex_ll (Pattern_isForm_b52_e h) ⟨rfl, trivial⟩
  rw [if_neg hc] at h
  refine q_sw_c (fun (hc : l0 = Int32.ofNat 2) => ?_) (fun (hc : ¬ l0 = Int32.ofNat 2) => ?_)
  · rw [if_pos hc] at h
    exact q_ex_ll (Pattern_isForm_b52_e h) ⟨rfl, trivial⟩
  rw [if_neg hc] at h
  refine q_sw_c (fun (hc : l0 = Int32.ofNat 3) => ?_) (fun (hc : ¬ l0 = Int32.ofNat 3) => ?_)
  · rw [if_pos hc] at h
    exact q_ex_ll (Pattern_isForm_b52_e h) ⟨rfl, trivial⟩
  rw [if_neg hc] at h
  refine q_sw_c (fun (hc : l0 = Int32.ofNat 4) => ?_) (fun (hc : ¬ l0 = Int32.ofNat 4) => ?_)
  · rw [if_pos hc] at h
    exact q_ex_ll (Pattern_isForm_b112_e h) ⟨rfl, trivial⟩
  rw [if_neg hc] at h
  refine q_sw_c (fun (hc : l0 = Int32.ofNat 5) => ?_) (fun (hc : ¬ l0 = Int32.ofNat 5) => ?_)
  · rw [if_pos hc] at h
    exact q_ex_ll (Pattern_isForm_b112_e h) ⟨rfl, trivial⟩
  rw [if_neg hc] at h
  refine q_sw_c (fun (hc : l0 = Int32.ofNat 6) => ?_) (fun (hc : ¬ l0 = Int32.ofNat 6) => ?_)
  · rw [if_pos hc] at h
    exact q_ex_ll (Pattern_isForm_b112_e h) ⟨rfl, trivial⟩
  rw [if_neg hc] at h
  refine q_sw_c (fun (hc : l0 = Int32.ofNat 7) => ?_) (fun (hc : ¬ l0 = Int32.ofNat 7) => ?_)
  · rw [if_pos hc] at h
    refine q_ex_br 4 (c := (lg_cmp l1 0) < 0) (pc1 := 90) (pc2 := 78) (L' := (q_L [(0, .inl l0), (1, .inr (.inl l1))])) (st' := []) (σ' := σ) (fun _ => rfl) (fun hc => ?_) (fun hc => ?_)
    · rw [if_pos hc] at h
      exact q_ex_ll (Pattern_isForm_b90_e h) trivial
    · rw [if_neg hc] at h
      refine q_ex_br 4 (c := 0 ≤ (lg_cmp l1 4)) (pc1 := 90) (pc2 := 86) (L' := (q_L [(0, .inl l0), (1, .inr (.inl l1))])) (st' := []) (σ' := σ) (fun _ => rfl) (fun hc => ?_) (fun hc => ?_)
      · rw [if_pos hc] at h
        exact q_ex_ll (Pattern_isForm_b90_e h) trivial
      · rw [if_neg hc] at h
        refine q_ex_go 2 (pc' := 91) (L' := (q_L [(0, .inl l0), (1, .inr (.inl l1))])) (st' := [.inl 1]) (σ' := σ) (fun _ => rfl) ?_
        exact q_ex_ll (Pattern_isForm_b91_e h) trivial
  rw [if_neg hc] at h
  refine q_sw_c (fun (hc : l0 = Int32.ofNat 8) => ?_) (fun (hc : ¬ l0 = Int32.ofNat 8) => ?_)
  · rw [if_pos hc] at h
    refine q_ex_br 4 (c := (lg_cmp l1 0) < 0) (pc1 := 110) (pc2 := 98) (L' := (q_L [(0, .inl l0), (1, .inr (.inl l1))])) (st' := []) (σ' := σ) (fun _ => rfl) (fun hc => ?_) (fun hc => ?_)
    · rw [if_pos hc] at h
      exact q_ex_ll (Pattern_isForm_b110_e h) trivial
    · rw [if_neg hc] at h
      refine q_ex_br 4 (c := 0 ≤ (lg_cmp l1 2)) (pc1 := 110) (pc2 := 106) (L' := (q_L [(0, .inl l0), (1, .inr (.inl l1))])) (st' := []) (σ' := σ) (fun _ => rfl) (fun hc => ?_) (fun hc => ?_)
      · rw [if_pos hc] at h
        exact q_ex_ll (Pattern_isForm_b110_e h) trivial
      · rw [if_neg hc] at h
        refine q_ex_go 2 (pc' := 111) (L' := (q_L [(0, .inl l0), (1, .inr (.inl l1))])) (st' := [.inl 1]) (σ' := σ) (fun _ => rfl) ?_
        exact q_ex_ll (Pattern_isForm_b111_e h) trivial
  rw [if_neg hc] at h
  refine q_sw_c (fun (hc : l0 = Int32.ofNat 9) => ?_) (fun (hc : ¬ l0 = Int32.ofNat 9) => ?_)
  · rw [if_pos hc] at h
    exact q_ex_ll (Pattern_isForm_b52_e h) ⟨rfl, trivial⟩
  rw [if_neg hc] at h
  refine q_sw_d ?_
  exact q_ex_ll (Pattern_isForm_b112_e h) ⟨rfl, trivial⟩
theorem Pattern_isForm_e {n : Nat} {r0 : (Int32) × J} {x0 : Int32} {x1 : Int64} {σ : J} (h : Pattern_isForm n x0 x1 σ = some r0) : q_ex q_pr n 0 66 0 (q_args 0 [.inl x0, .inr (.inl x1)]) [] σ (Pattern_isForm_r r0) := q_ex_ll (Pattern_isForm_b0_e h) ⟨rfl, rfl, trivial⟩
def Pattern_append_r : (Int32) × J → Res := fun q => (.inl (some (.inl q.1)), q.2)
-- 61: Pattern_append
def Pattern_append_b0 (n : Nat) (l0 : Nat) (l1 : Int32) (l2 : Int64) (l4 : Int64) (σ : J) : Option ((Int32) × J) := if q_in (σ.1 8 0 l0) 4 = true then q_bs (q_sA σ 9 l0 (upd (σ.2.1 9 l0) ((σ.1 8 0 l0).toNatClampNeg) l1)) fun σ1 => if q_in (σ1.1 8 0 l0) 4 = true then q_bs (q_sL σ1 10 l0 (vp_updL (σ1.2.2.1 10 l0) ((σ1.1 8 0 l0).toNatClampNeg) l2)) fun σ2 => if q_in (σ2.1 8 0 l0) 4 = true then q_bs (q_sL σ2 11 l0 (vp_updL (σ2.2.2.1 11 l0) ((σ2.1 8 0 l0).toNatClampNeg) l4)) fun σ3 => q_bs (q_sI σ3 8 0 l0 ((σ3.1 8 0 l0) + 1)) fun σ4 => some (σ4.1 8 0 l0, σ4) else none else none else none
def Pattern_append (n : Nat) (x0 : Nat) (x1 : Int32) (x2 : Int64) (x4 : Int64) (σ : J) : Option ((Int32) × J) := Pattern_append_b0 n x0 x1 x2 x4 σ
theorem Pattern_append_b0_e {n : Nat} {r0 : (Int32) × J} {l0 : Nat} {l1 : Int32} {l2 : Int64} {l4 : Int64} {σ : J} (h : Pattern_append_b0 n l0 l1 l2 l4 σ = some r0) : q_ex q_pr n 0 61 0 (q_L [(0, .inr (.inr (some (8, l0)))), (1, .inl l1), (2, .inr (.inl l2)), (4, .inr (.inl l4))]) [] σ (Pattern_append_r r0) := by
  unfold Pattern_append_b0 at h
  refine q_by h (fun hz h => ?_)
  refine q_ex_gb 6 (pc' := 10) (L' := (q_L [(0, .inr (.inr (some (8, l0)))), (1, .inl l1), (2, .inr (.inl l2)), (4, .inr (.inl l4))])) (st' := []) (σ' := (q_sA σ 9 l0 (upd (σ.2.1 9 l0) ((σ.1 8 0 l0).toNatClampNeg) l1))) (fun _ => rfl) hz ?_
  refine q_nm (G := fun τ => q_ex q_pr n _ 61 10 (q_L [(0, .inr (.inr (some (8, l0)))), (1, .inl l1), (2, .inr (.inl l2)), (4, .inr (.inl l4))]) [] τ _) h (fun σ1 h => ?_)
  refine q_by h (fun hz h => ?_)
  refine q_ex_gb 6 (pc' := 20) (L' := (q_L [(0, .inr (.inr (some (8, l0)))), (1, .inl l1), (2, .inr (.inl l2)), (4, .inr (.inl l4))])) (st' := []) (σ' := (q_sL σ1 10 l0 (vp_updL (σ1.2.2.1 10 l0) ((σ1.1 8 0 l0).toNatClampNeg) l2))) (fun _ => rfl) hz ?_
  refine q_nm (G := fun τ => q_ex q_pr n _ 61 20 (q_L [(0, .inr (.inr (some (8, l0)))), (1, .inl l1), (2, .inr (.inl l2)), (4, .inr (.inl l4))]) [] τ _) h (fun σ2 h => ?_)
  refine q_by h (fun hz h => ?_)
  refine q_ex_gb 6 (pc' := 31) (L' := (q_L [(0, .inr (.inr (some (8, l0)))), (1, .inl l1), (2, .inr (.inl l2)), (4, .inr (.inl l4))])) (st' := []) (σ' := (q_sL σ2 11 l0 (vp_updL (σ2.2.2.1 11 l0) ((σ2.1 8 0 l0).toNatClampNeg) l4))) (fun _ => rfl) hz ?_
  refine q_nm (G := fun τ => q_ex q_pr n _ 61 31 (q_L [(0, .inr (.inr (some (8, l0)))), (1, .inl l1), (2, .inr (.inl l2)), (4, .inr (.inl l4))]) [] τ _) h (fun σ3 h => ?_)
  refine q_ex_go 6 (pc' := 41) (L' := (q_L [(0, .inr (.inr (some (8, l0)))), (1, .inl l1), (2, .inr (.inl l2)), (4, .inr (.inl l4))])) (st' := []) (σ' := (q_sI σ3 8 0 l0 ((σ3.1 8 0 l0) + 1))) (fun _ => rfl) ?_
  refine q_nm (G := fun τ => q_ex q_pr n _ 61 41 (q_L [(0, .inr (.inr (some (8, l0)))), (1, .inl l1), (2, .inr (.inl l2)), (4, .inr (.inl l4))]) [] τ _) h (fun σ4 h => ?_)
  refine q_ex_go 2 (pc' := 45) (L' := (q_L [(0, .inr (.inr (some (8, l0)))), (1, .inl l1), (2, .inr (.inl l2)), (4, .inr (.inl l4))])) (st' := [.inl (σ4.1 8 0 l0)]) (σ' := σ4) (fun _ => rfl) ?_
  cases h
  exact ⟨1, rfl⟩
theorem Pattern_append_e {n : Nat} {r0 : (Int32) × J} {x0 : Nat} {x1 : Int32} {x2 : Int64} {x4 : Int64} {σ : J} (h : Pattern_append n x0 x1 x2 x4 σ = some r0) : q_ex q_pr n 0 61 0 (q_args 0 [.inr (.inr (some (8, x0))), .inl x1, .inr (.inl x2), .inr (.inl x4)]) [] σ (Pattern_append_r r0) := q_ex_ll (Pattern_append_b0_e h) ⟨rfl, rfl, rfl, rfl, trivial⟩
def Pattern_copyFrom_r : J → Res := fun σ => (.inl none, σ)
-- 62: Pattern_copyFrom
def Pattern_copyFrom_b0 (n : Nat) (l0 : Nat) (l1 : Nat) (σ : J) : Option (J) := q_bs (q_sI σ 8 0 l0 (σ.1 8 0 l1)) fun σ1 => if q_cpo 0 0 4 4 4 = true then q_bs (q_sA σ1 9 l0 (va_cpy (σ1.2.1 9 l1) (σ1.2.1 9 l0) (0 : Int32).toNatClampNeg (0 : Int32).toNatClampNeg (4 : Int32).toNatClampNeg)) fun σ2 => if q_cpo 0 0 4 4 4 = true then q_bs (q_sL σ2 10 l0 (va_cpy (σ2.2.2.1 10 l1) (σ2.2.2.1 10 l0) (0 : Int32).toNatClampNeg (0 : Int32).toNatClampNeg (4 : Int32).toNatClampNeg)) fun σ3 => if q_cpo 0 0 4 4 4 = true then q_bs (q_sL σ3 11 l0 (va_cpy (σ3.2.2.1 11 l1) (σ3.2.2.1 11 l0) (0 : Int32).toNatClampNeg (0 : Int32).toNatClampNeg (4 : Int32).toNatClampNeg)) fun σ4 => some σ4 else none else none else none
def Pattern_copyFrom (n : Nat) (x0 : Nat) (x1 : Nat) (σ : J) : Option (J) := Pattern_copyFrom_b0 n x0 x1 σ
theorem Pattern_copyFrom_b0_e {n : Nat} {r0 : J} {l0 : Nat} {l1 : Nat} {σ : J} (h : Pattern_copyFrom_b0 n l0 l1 σ = some r0) : q_ex q_pr n 0 62 0 (q_L [(0, .inr (.inr (some (8, l0)))), (1, .inr (.inr (some (8, l1))))]) [] σ (Pattern_copyFrom_r r0) := by
  unfold Pattern_copyFrom_b0 at h
  refine q_ex_go 4 (pc' := 8) (L' := (q_L [(0, .inr (.inr (some (8, l0)))), (1, .inr (.inr (some (8, l1))))])) (st' := []) (σ' := (q_sI σ 8 0 l0 (σ.1 8 0 l1))) (fun _ => rfl) ?_
  refine q_nm (G := fun τ => q_ex q_pr n _ 62 8 (q_L [(0, .inr (.inr (some (8, l0)))), (1, .inr (.inr (some (8, l1))))]) [] τ _) h (fun σ1 h => ?_)
  refine q_by h (fun hz h => ?_)
  refine q_ex_gb 8 (b := q_cpo 0 0 4 4 4 && true) (pc' := 22) (L' := (q_L [(0, .inr (.inr (some (8, l0)))), (1, .inr (.inr (some (8, l1))))])) (st' := []) (σ' := (q_sA σ1 9 l0 (va_cpy (σ1.2.1 9 l1) (σ1.2.1 9 l0) (0 : Int32).toNatClampNeg (0 : Int32).toNatClampNeg (4 : Int32).toNatClampNeg))) (fun _ => rfl) (q_bt hz) ?_
  refine q_nm (G := fun τ => q_ex q_pr n _ 62 22 (q_L [(0, .inr (.inr (some (8, l0)))), (1, .inr (.inr (some (8, l1))))]) [] τ _) h (fun σ2 h => ?_)
  refine q_by h (fun hz h => ?_)
  refine q_ex_gb 8 (b := q_cpo 0 0 4 4 4 && true) (pc' := 36) (L' := (q_L [(0, .inr (.inr (some (8, l0)))), (1, .inr (.inr (some (8, l1))))])) (st' := []) (σ' := (q_sL σ2 10 l0 (va_cpy (σ2.2.2.1 10 l1) (σ2.2.2.1 10 l0) (0 : Int32).toNatClampNeg (0 : Int32).toNatClampNeg (4 : Int32).toNatClampNeg))) (fun _ => rfl) (q_bt hz) ?_
  refine q_nm (G := fun τ => q_ex q_pr n _ 62 36 (q_L [(0, .inr (.inr (some (8, l0)))), (1, .inr (.inr (some (8, l1))))]) [] τ _) h (fun σ3 h => ?_)
  refine q_by h (fun hz h => ?_)
  refine q_ex_gb 8 (b := q_cpo 0 0 4 4 4 && true) (pc' := 50) (L' := (q_L [(0, .inr (.inr (some (8, l0)))), (1, .inr (.inr (some (8, l1))))])) (st' := []) (σ' := (q_sL σ3 11 l0 (va_cpy (σ3.2.2.1 11 l1) (σ3.2.2.1 11 l0) (0 : Int32).toNatClampNeg (0 : Int32).toNatClampNeg (4 : Int32).toNatClampNeg))) (fun _ => rfl) (q_bt hz) ?_
  refine q_nm (G := fun τ => q_ex q_pr n _ 62 50 (q_L [(0, .inr (.inr (some (8, l0)))), (1, .inr (.inr (some (8, l1))))]) [] τ _) h (fun σ4 h => ?_)
  cases h
  exact ⟨1, rfl⟩
theorem Pattern_copyFrom_e {n : Nat} {r0 : J} {x0 : Nat} {x1 : Nat} {σ : J} (h : Pattern_copyFrom n x0 x1 σ = some r0) : q_ex q_pr n 0 62 0 (q_args 0 [.inr (.inr (some (8, x0))), .inr (.inr (some (8, x1)))]) [] σ (Pattern_copyFrom_r r0) := q_ex_ll (Pattern_copyFrom_b0_e h) ⟨rfl, rfl, trivial⟩
def Board_closeGaps_r : J → Res := fun σ => (.inl none, σ)
-- 37: Board_closeGaps
def Board_closeGaps_b48 (n : Nat) (k4 : Int32 → Int32 → J → Option (J)) (f : Nat) (l1 : Int32) (l2 : Int32) (σ : J) : Option (J) := k4 l1 (l2 + 1) σ
def Board_closeGaps_b4 (n : Nat) (k4 : Int32 → Int32 → J → Option (J)) (f : Nat) (l1 : Int32) (l2 : Int32) (σ : J) : Option (J) := if (σ.1 2 1 0) ≤ l2 then q_bs (q_sI σ 2 1 0 l1) fun σ1 => some σ1 else if q_in l2 20 = true then if Nat.blt (σ.2.2.2 3 0 l2.toNatClampNeg) 20 = true then if (σ.1 4 0 (σ.2.2.2 3 0 l2.toNatClampNeg)) = 0 then Board_closeGaps_b48 n k4 f l1 l2 σ else if q_in l1 20 = true then if Nat.blt (σ.2.2.2 3 0 l1.toNatClampNeg) 20 = true then if q_in l2 20 = true then q_bs (q_sP σ 3 0 (va_up (σ.2.2.2 3 0) l2.toNatClampNeg (σ.2.2.2 3 0 l1.toNatClampNeg))) fun σ2 => if q_in l1 20 = true then q_bs (q_sP σ2 3 0 (va_up (σ2.2.2.2 3 0) l1.toNatClampNeg (σ.2.2.2 3 0 l2.toNatClampNeg))) fun σ3 => Board_closeGaps_b48 n k4 f (l1 + 1) l2 σ3 else none else none else none else none else none else none
def Board_closeGaps_L4 (n : Nat) : Nat → Int32 → Int32 → J → Option (J)
  | 0 => fun _ _ _ => none
  | f + 1 => fun l1 l2 σ => Board_closeGaps_b4 n (Board_closeGaps_L4 n f) f l1 l2 σ
def Board_closeGaps_b0 (n : Nat) (f : Nat) (σ : J) : Option (J) := Board_closeGaps_L4 n f 0 0 σ
def Board_closeGaps (n : Nat) (f : Nat) (σ : J) : Option (J) := Board_closeGaps_b0 n f σ
theorem Board_closeGaps_b48_e {n : Nat} {r0 : J} {k4 : Int32 → Int32 → J → Option (J)} {f : Nat} {l1 : Int32} {l2 : Int32} {σ : J} (hk4 : ∀ {l1 : Int32} {l2 : Int32} {σ : J}, k4 l1 l2 σ = some r0 → q_ex q_pr n 0 37 4 (q_L [(0, .inr (.inr (some (2, 0)))), (1, .inl l1), (2, .inl l2)]) [] σ (Board_closeGaps_r r0)) (h : Board_closeGaps_b48 n k4 f l1 l2 σ = some r0) : q_ex q_pr n 0 37 48 (q_L [(0, .inr (.inr (some (2, 0)))), (1, .inl l1), (2, .inl l2)]) [] σ (Board_closeGaps_r r0) := by
  unfold Board_closeGaps_b48 at h
  refine q_ex_go 2 (pc' := 4) (L' := (q_s1 (q_L [(0, .inr (.inr (some (2, 0)))), (1, .inl l1), (2, .inl l2)]) 2 (.inl (l2 + 1)))) (st' := []) (σ' := σ) (fun _ => rfl) ?_
  exact q_ex_ll (hk4 h) ⟨rfl, rfl, rfl, trivial⟩
theorem Board_closeGaps_b4_e {n : Nat} {r0 : J} {k4 : Int32 → Int32 → J → Option (J)} {f : Nat} {l1 : Int32} {l2 : Int32} {σ : J} (hk4 : ∀ {l1 : Int32} {l2 : Int32} {σ : J}, k4 l1 l2 σ = some r0 → q_ex q_pr n 0 37 4 (q_L [(0, .inr (.inr (some (2, 0)))), (1, .inl l1), (2, .inl l2)]) [] σ (Board_closeGaps_r r0)) (h : Board_closeGaps_b4 n k4 f l1 l2 σ = some r0) : q_ex q_pr n 0 37 4 (q_L [(0, .inr (.inr (some (2, 0)))), (1, .inl l1), (2, .inl l2)]) [] σ (Board_closeGaps_r r0) := by
  unfold Board_closeGaps_b4 at h
  refine q_ex_br 4 (c := (σ.1 2 1 0) ≤ l2) (pc1 := 54) (pc2 := 12) (L' := (q_L [(0, .inr (.inr (some (2, 0)))), (1, .inl l1), (2, .inl l2)])) (st' := []) (σ' := σ) (fun _ => rfl) (fun hc => ?_) (fun hc => ?_)
  · rw [if_pos hc] at h
    refine q_ex_go 3 (pc' := 59) (L' := (q_L [(0, .inr (.inr (some (2, 0)))), (1, .inl l1), (2, .inl l2)])) (st' := []) (σ' := (q_sI σ 2 1 0 l1)) (fun _ => rfl) ?_
    refine q_nm (G := fun τ => q_ex q_pr n _ 37 59 (q_L [(0, .inr (.inr (some (2, 0)))), (1, .inl l1), (2, .inl l2)]) [] τ _) h (fun σ1 h => ?_)
    cases h
    exact ⟨1, rfl⟩
  · rw [if_neg hc] at h
    refine q_by h (fun hz h => ?_)
    refine q_by h (fun hy h => ?_)
    refine q_ex_g2 4 (pc' := 18) (L' := (q_L [(0, .inr (.inr (some (2, 0)))), (1, .inl l1), (2, .inl l2)])) (st' := [.inr (.inr (some (4, σ.2.2.2 3 0 l2.toNatClampNeg)))]) (σ' := σ) (fun _ => rfl) hz hy ?_
    refine q_ex_br 4 (c := (σ.1 4 0 (σ.2.2.2 3 0 l2.toNatClampNeg)) = 0) (pc1 := 48) (pc2 := 26) (L' := (q_s1 (q_L [(0, .inr (.inr (some (2, 0)))), (1, .inl l1), (2, .inl l2)]) 3 (.inr (.inr (some (4, σ.2.2.2 3 0 l2.toNatClampNeg)))))) (st' := []) (σ' := σ) (fun _ => rfl) (fun hc => ?_) (fun hc => ?_)
    · rw [if_pos hc] at h
      exact q_ex_ll (Board_closeGaps_b48_e hk4 h) ⟨rfl, rfl, rfl, trivial⟩
    · rw [if_neg hc] at h
      refine q_by h (fun hz h => ?_)
      refine q_by h (fun hy h => ?_)
      refine q_ex_g2 7 (pc' := 37) (L' := (q_s1 (q_L [(0, .inr (.inr (some (2, 0)))), (1, .inl l1), (2, .inl l2)]) 3 (.inr (.inr (some (4, σ.2.2.2 3 0 l2.toNatClampNeg)))))) (st' := [.inr (.inr (some (4, σ.2.2.2 3 0 l1.toNatClampNeg))), .inl l2, .inr (.inr (some (3, 0)))]) (σ' := σ) (fun _ => rfl) hz hy ?_
      refine q_by h (fun hz h => ?_)
      refine q_ex_gb 1 (pc' := 38) (L' := (q_s1 (q_L [(0, .inr (.inr (some (2, 0)))), (1, .inl l1), (2, .inl l2)]) 3 (.inr (.inr (some (4, σ.2.2.2 3 0 l2.toNatClampNeg)))))) (st' := []) (σ' := (q_sP σ 3 0 (va_up (σ.2.2.2 3 0) l2.toNatClampNeg (σ.2.2.2 3 0 l1.toNatClampNeg)))) (fun _ => rfl) hz ?_
      refine q_nm (G := fun τ => q_ex q_pr n _ 37 38 (q_s1 (q_L [(0, .inr (.inr (some (2, 0)))), (1, .inl l1), (2, .inl l2)]) 3 (.inr (.inr (some (4, σ.2.2.2 3 0 l2.toNatClampNeg))))) [] τ _) h (fun σ2 h => ?_)
      refine q_by h (fun hz h => ?_)
      refine q_ex_gb 5 (pc' := 45) (L' := (q_s1 (q_L [(0, .inr (.inr (some (2, 0)))), (1, .inl l1), (2, .inl l2)]) 3 (.inr (.inr (some (4, σ.2.2.2 3 0 l2.toNatClampNeg)))))) (st' := []) (σ' := (q_sP σ2 3 0 (va_up (σ2.2.2.2 3 0) l1.toNatClampNeg (σ.2.2.2 3 0 l2.toNatClampNeg)))) (fun _ => rfl) hz ?_
      refine q_nm (G := fun τ => q_ex q_pr n _ 37 45 (q_s1 (q_L [(0, .inr (.inr (some (2, 0)))), (1, .inl l1), (2, .inl l2)]) 3 (.inr (.inr (some (4, σ.2.2.2 3 0 l2.toNatClampNeg))))) [] τ _) h (fun σ3 h => ?_)
      refine q_ex_go 1 (pc' := 48) (L' := (q_s1 (q_s1 (q_L [(0, .inr (.inr (some (2, 0)))), (1, .inl l1), (2, .inl l2)]) 3 (.inr (.inr (some (4, σ.2.2.2 3 0 l2.toNatClampNeg))))) 1 (.inl (l1 + 1)))) (st' := []) (σ' := σ3) (fun _ => rfl) ?_
      exact q_ex_ll (Board_closeGaps_b48_e hk4 h) ⟨rfl, rfl, rfl, trivial⟩
theorem Board_closeGaps_L4_e {n : Nat} {r0 : J} (f : Nat) : ∀ {l1 : Int32} {l2 : Int32} {σ : J}, Board_closeGaps_L4 n f l1 l2 σ = some r0 → q_ex q_pr n 0 37 4 (q_L [(0, .inr (.inr (some (2, 0)))), (1, .inl l1), (2, .inl l2)]) [] σ (Board_closeGaps_r r0) := by
  induction f with
  | zero => intro l1 l2 σ h; cases h
  | succ f ih =>
    intro l1 l2 σ h
    exact Board_closeGaps_b4_e (f := f) (fun h => ih h) h
theorem Board_closeGaps_b0_e {n : Nat} {r0 : J} {f : Nat} {σ : J} (h : Board_closeGaps_b0 n f σ = some r0) : q_ex q_pr n 0 37 0 (q_L [(0, .inr (.inr (some (2, 0))))]) [] σ (Board_closeGaps_r r0) := by
  unfold Board_closeGaps_b0 at h
  refine q_ex_go 4 (pc' := 4) (L' := (q_s1 (q_s1 (q_L [(0, .inr (.inr (some (2, 0))))]) 1 (.inl 0)) 2 (.inl 0))) (st' := []) (σ' := σ) (fun _ => rfl) ?_
  exact q_ex_ll (Board_closeGaps_L4_e f h) ⟨rfl, rfl, rfl, trivial⟩
theorem Board_closeGaps_e {n : Nat} {r0 : J} {f : Nat} {σ : J} (h : Board_closeGaps n f σ = some r0) : q_ex q_pr n 0 37 0 (q_args 0 [.inr (.inr (some (2, 0)))]) [] σ (Board_closeGaps_r r0) := q_ex_ll (Board_closeGaps_b0_e h) ⟨rfl, trivial⟩
def Board_add_r : (Nat) × J → Res := fun q => (.inl (some (.inr (.inr (some (4, q.1))))), q.2)
-- 36: Board_add
def Board_add_b0 (n : Nat) (f : Nat) (l1 : Nat) (l2 : Int32) (σ : J) : Option ((Nat) × J) := (Board_closeGaps n f σ).bind fun q1 => if q_in (q1.1 2 1 0) 20 = true then if Nat.blt (q1.2.2.2 3 0 (q1.1 2 1 0).toNatClampNeg) 20 = true then q_bs (q_sI q1 2 1 0 ((q1.1 2 1 0) + 1)) fun σ2 => q_bs (q_sI σ2 2 2 0 ((σ2.1 2 2 0) + 1)) fun σ3 => (Tuple_begin n (q1.2.2.2 3 0 (q1.1 2 1 0).toNatClampNeg) (σ3.1 2 2 0) l1 l2 σ3).bind fun q4 => some (q1.2.2.2 3 0 (q1.1 2 1 0).toNatClampNeg, q4) else none else none
def Board_add (n : Nat) (f : Nat) (x1 : Nat) (x2 : Int32) (σ : J) : Option ((Nat) × J) := Board_add_b0 n f x1 x2 σ
theorem Board_add_b0_e {n : Nat} {r0 : (Nat) × J} {f : Nat} {l1 : Nat} {l2 : Int32} {σ : J} (h : Board_add_b0 n f l1 l2 σ = some r0) : q_ex q_pr n 3 36 0 (q_L [(0, .inr (.inr (some (2, 0)))), (1, .inr (.inr (some (5, l1)))), (2, .inl l2)]) [] σ (Board_add_r r0) := by
  unfold Board_add_b0 at h
  obtain ⟨q1, hq1, h⟩ := Option.bind_eq_some_iff.mp h
  refine q_ex_ca 2 (k1 := 37) (vs := [.inr (.inr (some (2, 0)))]) (pc' := 4) (L' := (q_L [(0, .inr (.inr (some (2, 0)))), (1, .inr (.inr (some (5, l1)))), (2, .inl l2)])) (rest := []) (σ' := σ) (fun _ => rfl) (q_ex_dd (Board_closeGaps_e hq1) (Nat.le_of_ble_eq_true rfl)) rfl ?_
  refine q_by h (fun hz h => ?_)
  refine q_by h (fun hy h => ?_)
  refine q_ex_g2 5 (pc' := 13) (L' := (q_L [(0, .inr (.inr (some (2, 0)))), (1, .inr (.inr (some (5, l1)))), (2, .inl l2)])) (st' := [.inr (.inr (some (4, q1.2.2.2 3 0 (q1.1 2 1 0).toNatClampNeg)))]) (σ' := q1) (fun _ => rfl) hz hy ?_
  refine q_ex_go 7 (pc' := 24) (L' := (q_s1 (q_L [(0, .inr (.inr (some (2, 0)))), (1, .inr (.inr (some (5, l1)))), (2, .inl l2)]) 3 (.inr (.inr (some (4, q1.2.2.2 3 0 (q1.1 2 1 0).toNatClampNeg)))))) (st' := []) (σ' := (q_sI q1 2 1 0 ((q1.1 2 1 0) + 1))) (fun _ => rfl) ?_
  refine q_nm (G := fun τ => q_ex q_pr n _ 36 24 (q_s1 (q_L [(0, .inr (.inr (some (2, 0)))), (1, .inr (.inr (some (5, l1)))), (2, .inl l2)]) 3 (.inr (.inr (some (4, q1.2.2.2 3 0 (q1.1 2 1 0).toNatClampNeg))))) [] τ _) h (fun σ2 h => ?_)
  refine q_ex_go 6 (pc' := 34) (L' := (q_s1 (q_L [(0, .inr (.inr (some (2, 0)))), (1, .inr (.inr (some (5, l1)))), (2, .inl l2)]) 3 (.inr (.inr (some (4, q1.2.2.2 3 0 (q1.1 2 1 0).toNatClampNeg)))))) (st' := []) (σ' := (q_sI σ2 2 2 0 ((σ2.1 2 2 0) + 1))) (fun _ => rfl) ?_
  refine q_nm (G := fun τ => q_ex q_pr n _ 36 34 (q_s1 (q_L [(0, .inr (.inr (some (2, 0)))), (1, .inr (.inr (some (5, l1)))), (2, .inl l2)]) 3 (.inr (.inr (some (4, q1.2.2.2 3 0 (q1.1 2 1 0).toNatClampNeg))))) [] τ _) h (fun σ3 h => ?_)
  obtain ⟨q4, hq4, h⟩ := Option.bind_eq_some_iff.mp h
  refine q_ex_ca 6 (k1 := 69) (vs := [.inr (.inr (some (4, q1.2.2.2 3 0 (q1.1 2 1 0).toNatClampNeg))), .inl (σ3.1 2 2 0), .inr (.inr (some (5, l1))), .inl l2]) (pc' := 44) (L' := (q_s1 (q_L [(0, .inr (.inr (some (2, 0)))), (1, .inr (.inr (some (5, l1)))), (2, .inl l2)]) 3 (.inr (.inr (some (4, q1.2.2.2 3 0 (q1.1 2 1 0).toNatClampNeg)))))) (rest := []) (σ' := σ3) (fun _ => rfl) (q_ex_dd (Tuple_begin_e hq4) (Nat.le_of_ble_eq_true rfl)) rfl ?_
  refine q_ex_go 1 (pc' := 45) (L' := (q_s1 (q_L [(0, .inr (.inr (some (2, 0)))), (1, .inr (.inr (some (5, l1)))), (2, .inl l2)]) 3 (.inr (.inr (some (4, q1.2.2.2 3 0 (q1.1 2 1 0).toNatClampNeg)))))) (st' := [.inr (.inr (some (4, q1.2.2.2 3 0 (q1.1 2 1 0).toNatClampNeg)))]) (σ' := q4) (fun _ => rfl) ?_
  cases h
  exact ⟨1, rfl⟩
theorem Board_add_e {n : Nat} {r0 : (Nat) × J} {f : Nat} {x1 : Nat} {x2 : Int32} {σ : J} (h : Board_add n f x1 x2 σ = some r0) : q_ex q_pr n 3 36 0 (q_args 0 [.inr (.inr (some (2, 0))), .inr (.inr (some (5, x1))), .inl x2]) [] σ (Board_add_r r0) := q_ex_ll (Board_add_b0_e h) ⟨rfl, rfl, rfl, trivial⟩
def Board_isFull_r : (Int32) × J → Res := fun q => (.inl (some (.inl q.1)), q.2)
-- 40: Board_isFull
def Board_isFull_b44 (n : Nat) (f : Nat) (s0 : Int32) (σ : J) : Option ((Int32) × J) := if s0 &&& 1 = s0 then some (s0, σ) else none
def Board_isFull_b27 (n : Nat) (k4 : Int32 → Int32 → J → Option ((Int32) × J)) (f : Nat) (l1 : Int32) (l2 : Int32) (σ : J) : Option ((Int32) × J) := k4 l1 (l2 + 1) σ
def Board_isFull_b4 (n : Nat) (k4 : Int32 → Int32 → J → Option ((Int32) × J)) (f : Nat) (l1 : Int32) (l2 : Int32) (σ : J) : Option ((Int32) × J) := if (σ.1 2 1 0) ≤ l2 then if l1 < 20 then Board_isFull_b44 n f 0 σ else Board_isFull_b44 n f 1 σ else if q_in l2 20 = true then if Nat.blt (σ.2.2.2 3 0 l2.toNatClampNeg) 20 = true then if (σ.1 4 0 (σ.2.2.2 3 0 l2.toNatClampNeg)) = 0 then Board_isFull_b27 n k4 f l1 l2 σ else Board_isFull_b27 n k4 f (l1 + 1) l2 σ else none else none
def Board_isFull_L4 (n : Nat) : Nat → Int32 → Int32 → J → Option ((Int32) × J)
  | 0 => fun _ _ _ => none
  | f + 1 => fun l1 l2 σ => Board_isFull_b4 n (Board_isFull_L4 n f) f l1 l2 σ
def Board_isFull_b0 (n : Nat) (f : Nat) (σ : J) : Option ((Int32) × J) := Board_isFull_L4 n f 0 0 σ
def Board_isFull (n : Nat) (f : Nat) (σ : J) : Option ((Int32) × J) := Board_isFull_b0 n f σ
theorem Board_isFull_b44_e {n : Nat} {r0 : (Int32) × J} {f : Nat} {s0 : Int32} {σ : J} (h : Board_isFull_b44 n f s0 σ = some r0) : q_ex q_pr n 0 40 44 (q_L []) [.inl s0] σ (Board_isFull_r r0) := by
  unfold Board_isFull_b44 at h
  refine q_by h (fun hz h => ?_)
  cases h
  exact ⟨1, if_pos (e := (none : Option Res)) hz⟩
theorem Board_isFull_b27_e {n : Nat} {r0 : (Int32) × J} {k4 : Int32 → Int32 → J → Option ((Int32) × J)} {f : Nat} {l1 : Int32} {l2 : Int32} {σ : J} (hk4 : ∀ {l1 : Int32} {l2 : Int32} {σ : J}, k4 l1 l2 σ = some r0 → q_ex q_pr n 0 40 4 (q_L [(0, .inr (.inr (some (2, 0)))), (1, .inl l1), (2, .inl l2)]) [] σ (Board_isFull_r r0)) (h : Board_isFull_b27 n k4 f l1 l2 σ = some r0) : q_ex q_pr n 0 40 27 (q_L [(0, .inr (.inr (some (2, 0)))), (1, .inl l1), (2, .inl l2)]) [] σ (Board_isFull_r r0) := by
  unfold Board_isFull_b27 at h
  refine q_ex_go 2 (pc' := 4) (L' := (q_s1 (q_L [(0, .inr (.inr (some (2, 0)))), (1, .inl l1), (2, .inl l2)]) 2 (.inl (l2 + 1)))) (st' := []) (σ' := σ) (fun _ => rfl) ?_
  exact q_ex_ll (hk4 h) ⟨rfl, rfl, rfl, trivial⟩
theorem Board_isFull_b4_e {n : Nat} {r0 : (Int32) × J} {k4 : Int32 → Int32 → J → Option ((Int32) × J)} {f : Nat} {l1 : Int32} {l2 : Int32} {σ : J} (hk4 : ∀ {l1 : Int32} {l2 : Int32} {σ : J}, k4 l1 l2 σ = some r0 → q_ex q_pr n 0 40 4 (q_L [(0, .inr (.inr (some (2, 0)))), (1, .inl l1), (2, .inl l2)]) [] σ (Board_isFull_r r0)) (h : Board_isFull_b4 n k4 f l1 l2 σ = some r0) : q_ex q_pr n 0 40 4 (q_L [(0, .inr (.inr (some (2, 0)))), (1, .inl l1), (2, .inl l2)]) [] σ (Board_isFull_r r0) := by
  unfold Board_isFull_b4 at h
  refine q_ex_br 4 (c := (σ.1 2 1 0) ≤ l2) (pc1 := 33) (pc2 := 12) (L' := (q_L [(0, .inr (.inr (some (2, 0)))), (1, .inl l1), (2, .inl l2)])) (st' := []) (σ' := σ) (fun _ => rfl) (fun hc => ?_) (fun hc => ?_)
  · rw [if_pos hc] at h
    refine q_ex_br 3 (c := l1 < 20) (pc1 := 43) (pc2 := 39) (L' := (q_L [(0, .inr (.inr (some (2, 0)))), (1, .inl l1), (2, .inl l2)])) (st' := []) (σ' := σ) (fun _ => rfl) (fun hc => ?_) (fun hc => ?_)
    · rw [if_pos hc] at h
      refine q_ex_go 1 (pc' := 44) (L' := (q_L [(0, .inr (.inr (some (2, 0)))), (1, .inl l1), (2, .inl l2)])) (st' := [.inl 0]) (σ' := σ) (fun _ => rfl) ?_
      exact q_ex_ll (Board_isFull_b44_e h) trivial
    · rw [if_neg hc] at h
      refine q_ex_go 2 (pc' := 44) (L' := (q_L [(0, .inr (.inr (some (2, 0)))), (1, .inl l1), (2, .inl l2)])) (st' := [.inl 1]) (σ' := σ) (fun _ => rfl) ?_
      exact q_ex_ll (Board_isFull_b44_e h) trivial
  · rw [if_neg hc] at h
    refine q_by h (fun hz h => ?_)
    refine q_by h (fun hy h => ?_)
    refine q_ex_g2 4 (pc' := 18) (L' := (q_L [(0, .inr (.inr (some (2, 0)))), (1, .inl l1), (2, .inl l2)])) (st' := [.inr (.inr (some (4, σ.2.2.2 3 0 l2.toNatClampNeg)))]) (σ' := σ) (fun _ => rfl) hz hy ?_
    refine q_ex_br 2 (c := (σ.1 4 0 (σ.2.2.2 3 0 l2.toNatClampNeg)) = 0) (pc1 := 27) (pc2 := 24) (L' := (q_L [(0, .inr (.inr (some (2, 0)))), (1, .inl l1), (2, .inl l2)])) (st' := []) (σ' := σ) (fun _ => rfl) (fun hc => ?_) (fun hc => ?_)
    · rw [if_pos hc] at h
      exact q_ex_ll (Board_isFull_b27_e hk4 h) ⟨rfl, rfl, rfl, trivial⟩
    · rw [if_neg hc] at h
      refine q_ex_go 1 (pc' := 27) (L' := (q_s1 (q_L [(0, .inr (.inr (some (2, 0)))), (1, .inl l1), (2, .inl l2)]) 1 (.inl (l1 + 1)))) (st' := []) (σ' := σ) (fun _ => rfl) ?_
      exact q_ex_ll (Board_isFull_b27_e hk4 h) ⟨rfl, rfl, rfl, trivial⟩
theorem Board_isFull_L4_e {n : Nat} {r0 : (Int32) × J} (f : Nat) : ∀ {l1 : Int32} {l2 : Int32} {σ : J}, Board_isFull_L4 n f l1 l2 σ = some r0 → q_ex q_pr n 0 40 4 (q_L [(0, .inr (.inr (some (2, 0)))), (1, .inl l1), (2, .inl l2)]) [] σ (Board_isFull_r r0) := by
  induction f with
  | zero => intro l1 l2 σ h; cases h
  | succ f ih =>
    intro l1 l2 σ h
    exact Board_isFull_b4_e (f := f) (fun h => ih h) h
theorem Board_isFull_b0_e {n : Nat} {r0 : (Int32) × J} {f : Nat} {σ : J} (h : Board_isFull_b0 n f σ = some r0) : q_ex q_pr n 0 40 0 (q_L [(0, .inr (.inr (some (2, 0))))]) [] σ (Board_isFull_r r0) := by
  unfold Board_isFull_b0 at h
  refine q_ex_go 4 (pc' := 4) (L' := (q_s1 (q_s1 (q_L [(0, .inr (.inr (some (2, 0))))]) 1 (.inl 0)) 2 (.inl 0))) (st' := []) (σ' := σ) (fun _ => rfl) ?_
  exact q_ex_ll (Board_isFull_L4_e f h) ⟨rfl, rfl, rfl, trivial⟩
theorem Board_isFull_e {n : Nat} {r0 : (Int32) × J} {f : Nat} {σ : J} (h : Board_isFull n f σ = some r0) : q_ex q_pr n 0 40 0 (q_args 0 [.inr (.inr (some (2, 0)))]) [] σ (Board_isFull_r r0) := q_ex_ll (Board_isFull_b0_e h) ⟨rfl, trivial⟩
