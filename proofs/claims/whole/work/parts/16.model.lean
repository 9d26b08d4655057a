/-! Functions of methods, and their runs. Ours, written by fun.py -/
def M_isSession_r : (Int32) × J → Res := fun q => (.inl (some (.inl q.1)), q.2)
-- 98: M_isSession
def M_isSession_b17 (n : Nat) (s0 : Int32) (σ : J) : Option ((Int32) × J) := if s0 &&& 1 = s0 then some (s0, σ) else none
def M_isSession_b16 (n : Nat) (σ : J) : Option ((Int32) × J) := M_isSession_b17 n 0 σ
def M_isSession_b0 (n : Nat) (l1 : Int32) (σ : J) : Option ((Int32) × J) := if l1 < 0 then M_isSession_b16 n σ else if (σ.1 24 13 0) ≤ l1 then M_isSession_b16 n σ else M_isSession_b17 n 1 σ
def M_isSession (n : Nat) (x1 : Int32) (σ : J) : Option ((Int32) × J) := M_isSession_b0 n x1 σ
theorem M_isSession_b17_e {n : Nat} {r0 : (Int32) × J} {s0 : Int32} {σ : J} (h : M_isSession_b17 n s0 σ = some r0) : q_ex q_pr n 0 98 17 (q_L []) [.inl s0] σ (M_isSession_r r0) := by
  unfold M_isSession_b17 at h
  refine q_by h (fun hz h => ?_)
  cases h
  exact ⟨1, if_pos (e := (none : Option Res)) hz⟩
theorem M_isSession_b16_e {n : Nat} {r0 : (Int32) × J} {σ : J} (h : M_isSession_b16 n σ = some r0) : q_ex q_pr n 0 98 16 (q_L []) [] σ (M_isSession_r r0) := by
  unfold M_isSession_b16 at h
  refine q_ex_go 1 (pc' := 17) (L' := (q_L [])) (st' := [.inl 0]) (σ' := σ) (fun _ => rfl) ?_
  exact q_ex_ll (M_isSession_b17_e h) trivial
theorem M_isSession_b0_e {n : Nat} {r0 : (Int32) × J} {l1 : Int32} {σ : J} (h : M_isSession_b0 n l1 σ = some r0) : q_ex q_pr n 0 98 0 (q_L [(0, .inr (.inr (some (24, 0)))), (1, .inl l1)]) [] σ (M_isSession_r r0) := by
  unfold M_isSession_b0 at h
  refine q_ex_br 2 (c := l1 < 0) (pc1 := 16) (pc2 := 4) (L' := (q_L [(0, .inr (.inr (some (24, 0)))), (1, .inl l1)])) (st' := []) (σ' := σ) (fun _ => rfl) (fun hc => ?_) (fun hc => ?_)
  · rw [if_pos hc] at h
    exact q_ex_ll (M_isSession_b16_e h) trivial
  · rw [if_neg hc] at h
    refine q_ex_br 4 (c := (σ.1 24 13 0) ≤ l1) (pc1 := 16) (pc2 := 12) (L' := (q_L [(0, .inr (.inr (some (24, 0)))), (1, .inl l1)])) (st' := []) (σ' := σ) (fun _ => rfl) (fun hc => ?_) (fun hc => ?_)
    · rw [if_pos hc] at h
      exact q_ex_ll (M_isSession_b16_e h) trivial
    · rw [if_neg hc] at h
      refine q_ex_go 2 (pc' := 17) (L' := (q_L [(0, .inr (.inr (some (24, 0)))), (1, .inl l1)])) (st' := [.inl 1]) (σ' := σ) (fun _ => rfl) ?_
      exact q_ex_ll (M_isSession_b17_e h) trivial
theorem M_isSession_e {n : Nat} {r0 : (Int32) × J} {x1 : Int32} {σ : J} (h : M_isSession n x1 σ = some r0) : q_ex q_pr n 0 98 0 (q_args 0 [.inr (.inr (some (24, 0))), .inl x1]) [] σ (M_isSession_r r0) := q_ex_ll (M_isSession_b0_e h) ⟨rfl, rfl, trivial⟩
def M_standing_r : (Int32) × J → Res := fun q => (.inl (some (.inl q.1)), q.2)
-- 117: M_standing
def M_standing_b27 (n : Nat) (k4 : Int32 → Int32 → Int32 → J → Option ((Int32) × J)) (f : Nat) (l1 : Int32) (l3 : Int32) (s0 : Int32) (σ : J) : Option ((Int32) × J) := k4 l1 s0 (l3 + 1) σ
def M_standing_b4 (n : Nat) (k4 : Int32 → Int32 → Int32 → J → Option ((Int32) × J)) (f : Nat) (l1 : Int32) (l2 : Int32) (l3 : Int32) (σ : J) : Option ((Int32) × J) := if (σ.1 24 22 0) ≤ l3 then some (l2, σ) else if q_in l3 4 = true then if (σ.2.1 42 0 l3.toNatClampNeg) = l1 then M_standing_b27 n k4 f l1 l3 l3 σ else M_standing_b27 n k4 f l1 l3 l2 σ else none
def M_standing_L4 (n : Nat) : Nat → Int32 → Int32 → Int32 → J → Option ((Int32) × J)
  | 0 => fun _ _ _ _ => none
  | f + 1 => fun l1 l2 l3 σ => M_standing_b4 n (M_standing_L4 n f) f l1 l2 l3 σ
def M_standing_b0 (n : Nat) (f : Nat) (l1 : Int32) (σ : J) : Option ((Int32) × J) := M_standing_L4 n f l1 (-1) 0 σ
def M_standing (n : Nat) (f : Nat) (x1 : Int32) (σ : J) : Option ((Int32) × J) := M_standing_b0 n f x1 σ
theorem M_standing_b27_e {n : Nat} {r0 : (Int32) × J} {k4 : Int32 → Int32 → Int32 → J → Option ((Int32) × J)} {f : Nat} {l1 : Int32} {l3 : Int32} {s0 : Int32} {σ : J} (hk4 : ∀ {l1 : Int32} {l2 : Int32} {l3 : Int32} {σ : J}, k4 l1 l2 l3 σ = some r0 → q_ex q_pr n 0 117 4 (q_L [(0, .inr (.inr (some (24, 0)))), (1, .inl l1), (2, .inl l2), (3, .inl l3)]) [] σ (M_standing_r r0)) (h : M_standing_b27 n k4 f l1 l3 s0 σ = some r0) : q_ex q_pr n 0 117 27 (q_L [(0, .inr (.inr (some (24, 0)))), (1, .inl l1), (3, .inl l3)]) [.inl s0] σ (M_standing_r r0) := by
  unfold M_standing_b27 at h
  refine q_ex_go 3 (pc' := 4) (L' := (q_s1 (q_s1 (q_L [(0, .inr (.inr (some (24, 0)))), (1, .inl l1), (3, .inl l3)]) 2 (.inl s0)) 3 (.inl (l3 + 1)))) (st' := []) (σ' := σ) (fun _ => rfl) ?_
  exact q_ex_ll (hk4 h) ⟨rfl, rfl, rfl, rfl, trivial⟩
theorem M_standing_b4_e {n : Nat} {r0 : (Int32) × J} {k4 : Int32 → Int32 → Int32 → J → Option ((Int32) × J)} {f : Nat} {l1 : Int32} {l2 : Int32} {l3 : Int32} {σ : J} (hk4 : ∀ {l1 : Int32} {l2 : Int32} {l3 : Int32} {σ : J}, k4 l1 l2 l3 σ = some r0 → q_ex q_pr n 0 117 4 (q_L [(0, .inr (.inr (some (24, 0)))), (1, .inl l1), (2, .inl l2), (3, .inl l3)]) [] σ (M_standing_r r0)) (h : M_standing_b4 n k4 f l1 l2 l3 σ = some r0) : q_ex q_pr n 0 117 4 (q_L [(0, .inr (.inr (some (24, 0)))), (1, .inl l1), (2, .inl l2), (3, .inl l3)]) [] σ (M_standing_r r0) := by
  unfold M_standing_b4 at h
  refine q_ex_br 4 (c := (σ.1 24 22 0) ≤ l3) (pc1 := 34) (pc2 := 12) (L' := (q_L [(0, .inr (.inr (some (24, 0)))), (1, .inl l1), (2, .inl l2), (3, .inl l3)])) (st' := []) (σ' := σ) (fun _ => rfl) (fun hc => ?_) (fun hc => ?_)
  · rw [if_pos hc] at h
    refine q_ex_go 1 (pc' := 35) (L' := (q_L [(0, .inr (.inr (some (24, 0)))), (1, .inl l1), (2, .inl l2), (3, .inl l3)])) (st' := [.inl l2]) (σ' := σ) (fun _ => rfl) ?_
    cases h
    exact ⟨1, rfl⟩
  · rw [if_neg hc] at h
    refine q_by h (fun hz h => ?_)
    refine q_ex_gb 4 (pc' := 18) (L' := (q_L [(0, .inr (.inr (some (24, 0)))), (1, .inl l1), (2, .inl l2), (3, .inl l3)])) (st' := [.inl (σ.2.1 42 0 l3.toNatClampNeg)]) (σ' := σ) (fun _ => rfl) hz ?_
    refine q_ex_br 2 (c := (σ.2.1 42 0 l3.toNatClampNeg) = l1) (pc1 := 22) (pc2 := 26) (L' := (q_L [(0, .inr (.inr (some (24, 0)))), (1, .inl l1), (2, .inl l2), (3, .inl l3)])) (st' := []) (σ' := σ) (fun _ => rfl) (fun hc => ?_) (fun hc => ?_)
    · rw [if_pos hc] at h
      refine q_ex_go 2 (pc' := 27) (L' := (q_L [(0, .inr (.inr (some (24, 0)))), (1, .inl l1), (2, .inl l2), (3, .inl l3)])) (st' := [.inl l3]) (σ' := σ) (fun _ => rfl) ?_
      exact q_ex_ll (M_standing_b27_e hk4 h) ⟨rfl, rfl, rfl, trivial⟩
    · rw [if_neg hc] at h
      refine q_ex_go 1 (pc' := 27) (L' := (q_L [(0, .inr (.inr (some (24, 0)))), (1, .inl l1), (2, .inl l2), (3, .inl l3)])) (st' := [.inl l2]) (σ' := σ) (fun _ => rfl) ?_
      exact q_ex_ll (M_standing_b27_e hk4 h) ⟨rfl, rfl, rfl, trivial⟩
theorem M_standing_L4_e {n : Nat} {r0 : (Int32) × J} (f : Nat) : ∀ {l1 : Int32} {l2 : Int32} {l3 : Int32} {σ : J}, M_standing_L4 n f l1 l2 l3 σ = some r0 → q_ex q_pr n 0 117 4 (q_L [(0, .inr (.inr (some (24, 0)))), (1, .inl l1), (2, .inl l2), (3, .inl l3)]) [] σ (M_standing_r r0) := by
  induction f with
  | zero => intro l1 l2 l3 σ h; cases h
  | succ f ih =>
    intro l1 l2 l3 σ h
    exact M_standing_b4_e (f := f)  (fun h => ih h) h
theorem M_standing_b0_e {n : Nat} {r0 : (Int32) × J} {f : Nat} {l1 : Int32} {σ : J} (h : M_standing_b0 n f l1 σ = some r0) : q_ex q_pr n 0 117 0 (q_L [(0, .inr (.inr (some (24, 0)))), (1, .inl l1)]) [] σ (M_standing_r r0) := by
  unfold M_standing_b0 at h
  refine q_ex_go 4 (pc' := 4) (L' := (q_s1 (q_s1 (q_L [(0, .inr (.inr (some (24, 0)))), (1, .inl l1)]) 2 (.inl (-1))) 3 (.inl 0))) (st' := []) (σ' := σ) (fun _ => rfl) ?_
  exact q_ex_ll (M_standing_L4_e f h) ⟨rfl, rfl, rfl, rfl, trivial⟩
theorem M_standing_e {n : Nat} {r0 : (Int32) × J} {f : Nat} {x1 : Int32} {σ : J} (h : M_standing n f x1 σ = some r0) : q_ex q_pr n 0 117 0 (q_args 0 [.inr (.inr (some (24, 0))), .inl x1]) [] σ (M_standing_r r0) := q_ex_ll (M_standing_b0_e h) ⟨rfl, rfl, trivial⟩
def M_first_r : (Int32) × J → Res := fun q => (.inl (some (.inl q.1)), q.2)
-- 90: M_first
def M_first_b33 (n : Nat) (f : Nat) (s0 : Int32) (σ : J) : Option ((Int32) × J) := some (s0, σ)
def M_first_b0 (n : Nat) (f : Nat) (l1 : Int32) (l2 : Int32) (σ : J) : Option ((Int32) × J) := (M_isSession n l1 σ).bind fun q1 => if q1.1 = 0 then M_first_b33 n f 1 q1.2 else (M_standing n f l1 q1.2).bind fun q2 => if q2.1 < 0 then if l2 = 0 then M_first_b33 n f 3 q2.2 else M_first_b33 n f 0 q2.2 else M_first_b33 n f 2 q2.2
def M_first (n : Nat) (f : Nat) (x1 : Int32) (x2 : Int32) (σ : J) : Option ((Int32) × J) := M_first_b0 n f x1 x2 σ
theorem M_first_b33_e {n : Nat} {r0 : (Int32) × J} {f : Nat} {s0 : Int32} {σ : J} (h : M_first_b33 n f s0 σ = some r0) : q_ex q_pr n 1 90 33 (q_L []) [.inl s0] σ (M_first_r r0) := by
  unfold M_first_b33 at h
  cases h
  exact ⟨1, rfl⟩
theorem M_first_b0_e {n : Nat} {r0 : (Int32) × J} {f : Nat} {l1 : Int32} {l2 : Int32} {σ : J} (h : M_first_b0 n f l1 l2 σ = some r0) : q_ex q_pr n 1 90 0 (q_L [(0, .inr (.inr (some (24, 0)))), (1, .inl l1), (2, .inl l2)]) [] σ (M_first_r r0) := by
  unfold M_first_b0 at h
  obtain ⟨q1, hq1, h⟩ := Option.bind_eq_some_iff.mp h
  refine q_ex_ca 3 (k1 := 98) (vs := [.inr (.inr (some (24, 0))), .inl l1]) (pc' := 5) (L' := (q_L [(0, .inr (.inr (some (24, 0)))), (1, .inl l1), (2, .inl l2)])) (rest := []) (σ' := σ) (fun _ => rfl) (q_ex_dd (M_isSession_e hq1) (Nat.le_of_ble_eq_true rfl)) rfl ?_
  refine q_ex_br 1 (c := q1.1 = 0) (pc1 := 8) (pc2 := 12) (L' := (q_L [(0, .inr (.inr (some (24, 0)))), (1, .inl l1), (2, .inl l2)])) (st' := []) (σ' := q1.2) (fun _ => rfl) (fun hc => ?_) (fun hc => ?_)
  · rw [if_pos hc] at h
    refine q_ex_go 2 (pc' := 33) (L' := (q_L [(0, .inr (.inr (some (24, 0)))), (1, .inl l1), (2, .inl l2)])) (st' := [.inl 1]) (σ' := q1.2) (fun _ => rfl) ?_
    exact q_ex_ll (M_first_b33_e h) trivial
  · rw [if_neg hc] at h
    obtain ⟨q2, hq2, h⟩ := Option.bind_eq_some_iff.mp h
    refine q_ex_ca 3 (k1 := 117) (vs := [.inr (.inr (some (24, 0))), .inl l1]) (pc' := 17) (L' := (q_L [(0, .inr (.inr (some (24, 0)))), (1, .inl l1), (2, .inl l2)])) (rest := []) (σ' := q1.2) (fun _ => rfl) (q_ex_dd (M_standing_e hq2) (Nat.le_of_ble_eq_true rfl)) rfl ?_
    refine q_ex_br 1 (c := q2.1 < 0) (pc1 := 24) (pc2 := 20) (L' := (q_L [(0, .inr (.inr (some (24, 0)))), (1, .inl l1), (2, .inl l2)])) (st' := []) (σ' := q2.2) (fun _ => rfl) (fun hc => ?_) (fun hc => ?_)
    · rw [if_pos hc] at h
      refine q_ex_br 2 (c := l2 = 0) (pc1 := 32) (pc2 := 28) (L' := (q_L [(0, .inr (.inr (some (24, 0)))), (1, .inl l1), (2, .inl l2)])) (st' := []) (σ' := q2.2) (fun _ => rfl) (fun hc => ?_) (fun hc => ?_)
      · rw [if_pos hc] at h
        refine q_ex_go 1 (pc' := 33) (L' := (q_L [(0, .inr (.inr (some (24, 0)))), (1, .inl l1), (2, .inl l2)])) (st' := [.inl 3]) (σ' := q2.2) (fun _ => rfl) ?_
        exact q_ex_ll (M_first_b33_e h) trivial
      · rw [if_neg hc] at h
        refine q_ex_go 2 (pc' := 33) (L' := (q_L [(0, .inr (.inr (some (24, 0)))), (1, .inl l1), (2, .inl l2)])) (st' := [.inl 0]) (σ' := q2.2) (fun _ => rfl) ?_
        exact q_ex_ll (M_first_b33_e h) trivial
    · rw [if_neg hc] at h
      refine q_ex_go 2 (pc' := 33) (L' := (q_L [(0, .inr (.inr (some (24, 0)))), (1, .inl l1), (2, .inl l2)])) (st' := [.inl 2]) (σ' := q2.2) (fun _ => rfl) ?_
      exact q_ex_ll (M_first_b33_e h) trivial
theorem M_first_e {n : Nat} {r0 : (Int32) × J} {f : Nat} {x1 : Int32} {x2 : Int32} {σ : J} (h : M_first n f x1 x2 σ = some r0) : q_ex q_pr n 1 90 0 (q_args 0 [.inr (.inr (some (24, 0))), .inl x1, .inl x2]) [] σ (M_first_r r0) := q_ex_ll (M_first_b0_e h) ⟨rfl, rfl, rfl, trivial⟩
def M_isTaken_r : (Int32) × J → Res := fun q => (.inl (some (.inl q.1)), q.2)
-- 99: M_isTaken
def M_isTaken_b30 (n : Nat) (s0 : Int32) (σ : J) : Option ((Int32) × J) := if s0 &&& 1 = s0 then some (s0, σ) else none
def M_isTaken_b29 (n : Nat) (σ : J) : Option ((Int32) × J) := M_isTaken_b30 n 0 σ
def M_isTaken_b0 (n : Nat) (l1 : Int32) (l2 : Int32) (σ : J) : Option ((Int32) × J) := if q_in l2 20 = true then if (σ.2.1 30 0 l2.toNatClampNeg) = l1 then if q_in l2 20 = true then if q_in l1 4 = true then if (σ.2.1 31 0 l2.toNatClampNeg) = (σ.2.1 34 0 l1.toNatClampNeg) then M_isTaken_b30 n 1 σ else M_isTaken_b29 n σ else none else none else M_isTaken_b29 n σ else none
def M_isTaken (n : Nat) (x1 : Int32) (x2 : Int32) (σ : J) : Option ((Int32) × J) := M_isTaken_b0 n x1 x2 σ
theorem M_isTaken_b30_e {n : Nat} {r0 : (Int32) × J} {s0 : Int32} {σ : J} (h : M_isTaken_b30 n s0 σ = some r0) : q_ex q_pr n 0 99 30 (q_L []) [.inl s0] σ (M_isTaken_r r0) := by
  unfold M_isTaken_b30 at h
  refine q_by h (fun hz h => ?_)
  cases h
  exact ⟨1, if_pos (e := (none : Option Res)) hz⟩
theorem M_isTaken_b29_e {n : Nat} {r0 : (Int32) × J} {σ : J} (h : M_isTaken_b29 n σ = some r0) : q_ex q_pr n 0 99 29 (q_L []) [] σ (M_isTaken_r r0) := by
  unfold M_isTaken_b29 at h
  refine q_ex_go 1 (pc' := 30) (L' := (q_L [])) (st' := [.inl 0]) (σ' := σ) (fun _ => rfl) ?_
  exact q_ex_ll (M_isTaken_b30_e h) trivial
theorem M_isTaken_b0_e {n : Nat} {r0 : (Int32) × J} {l1 : Int32} {l2 : Int32} {σ : J} (h : M_isTaken_b0 n l1 l2 σ = some r0) : q_ex q_pr n 0 99 0 (q_L [(0, .inr (.inr (some (24, 0)))), (1, .inl l1), (2, .inl l2)]) [] σ (M_isTaken_r r0) := by
  unfold M_isTaken_b0 at h
  refine q_by h (fun hz h => ?_)
  refine q_ex_gb 4 (pc' := 6) (L' := (q_L [(0, .inr (.inr (some (24, 0)))), (1, .inl l1), (2, .inl l2)])) (st' := [.inl (σ.2.1 30 0 l2.toNatClampNeg)]) (σ' := σ) (fun _ => rfl) hz ?_
  refine q_ex_br 2 (c := (σ.2.1 30 0 l2.toNatClampNeg) = l1) (pc1 := 10) (pc2 := 29) (L' := (q_L [(0, .inr (.inr (some (24, 0)))), (1, .inl l1), (2, .inl l2)])) (st' := []) (σ' := σ) (fun _ => rfl) (fun hc => ?_) (fun hc => ?_)
  · rw [if_pos hc] at h
    refine q_by h (fun hz h => ?_)
    refine q_ex_gb 4 (pc' := 16) (L' := (q_L [(0, .inr (.inr (some (24, 0)))), (1, .inl l1), (2, .inl l2)])) (st' := [.inl (σ.2.1 31 0 l2.toNatClampNeg)]) (σ' := σ) (fun _ => rfl) hz ?_
    refine q_by h (fun hz h => ?_)
    refine q_ex_gb 4 (pc' := 22) (L' := (q_L [(0, .inr (.inr (some (24, 0)))), (1, .inl l1), (2, .inl l2)])) (st' := [.inl (σ.2.1 34 0 l1.toNatClampNeg), .inl (σ.2.1 31 0 l2.toNatClampNeg)]) (σ' := σ) (fun _ => rfl) hz ?_
    refine q_ex_br 1 (c := (σ.2.1 31 0 l2.toNatClampNeg) = (σ.2.1 34 0 l1.toNatClampNeg)) (pc1 := 25) (pc2 := 29) (L' := (q_L [(0, .inr (.inr (some (24, 0)))), (1, .inl l1), (2, .inl l2)])) (st' := []) (σ' := σ) (fun _ => rfl) (fun hc => ?_) (fun hc => ?_)
    · rw [if_pos hc] at h
      refine q_ex_go 2 (pc' := 30) (L' := (q_L [(0, .inr (.inr (some (24, 0)))), (1, .inl l1), (2, .inl l2)])) (st' := [.inl 1]) (σ' := σ) (fun _ => rfl) ?_
      exact q_ex_ll (M_isTaken_b30_e h) trivial
    · rw [if_neg hc] at h
      exact q_ex_ll (M_isTaken_b29_e h) trivial
  · rw [if_neg hc] at h
    exact q_ex_ll (M_isTaken_b29_e h) trivial
theorem M_isTaken_e {n : Nat} {r0 : (Int32) × J} {x1 : Int32} {x2 : Int32} {σ : J} (h : M_isTaken n x1 x2 σ = some r0) : q_ex q_pr n 0 99 0 (q_args 0 [.inr (.inr (some (24, 0))), .inl x1, .inl x2]) [] σ (M_isTaken_r r0) := q_ex_ll (M_isTaken_b0_e h) ⟨rfl, rfl, rfl, trivial⟩
def M_isPut_r : (Int32) × J → Res := fun q => (.inl (some (.inl q.1)), q.2)
-- 97: M_isPut
def M_isPut_b30 (n : Nat) (s0 : Int32) (σ : J) : Option ((Int32) × J) := if s0 &&& 1 = s0 then some (s0, σ) else none
def M_isPut_b29 (n : Nat) (σ : J) : Option ((Int32) × J) := M_isPut_b30 n 0 σ
def M_isPut_b0 (n : Nat) (l1 : Int32) (l2 : Int32) (σ : J) : Option ((Int32) × J) := if q_in l2 20 = true then if (σ.2.1 28 0 l2.toNatClampNeg) = l1 then if q_in l2 20 = true then if q_in l1 4 = true then if (σ.2.1 29 0 l2.toNatClampNeg) = (σ.2.1 34 0 l1.toNatClampNeg) then M_isPut_b30 n 1 σ else M_isPut_b29 n σ else none else none else M_isPut_b29 n σ else none
def M_isPut (n : Nat) (x1 : Int32) (x2 : Int32) (σ : J) : Option ((Int32) × J) := M_isPut_b0 n x1 x2 σ
theorem M_isPut_b30_e {n : Nat} {r0 : (Int32) × J} {s0 : Int32} {σ : J} (h : M_isPut_b30 n s0 σ = some r0) : q_ex q_pr n 0 97 30 (q_L []) [.inl s0] σ (M_isPut_r r0) := by
  unfold M_isPut_b30 at h
  refine q_by h (fun hz h => ?_)
  cases h
  exact ⟨1, if_pos (e := (none : Option Res)) hz⟩
theorem M_isPut_b29_e {n : Nat} {r0 : (Int32) × J} {σ : J} (h : M_isPut_b29 n σ = some r0) : q_ex q_pr n 0 97 29 (q_L []) [] σ (M_isPut_r r0) := by
  unfold M_isPut_b29 at h
  refine q_ex_go 1 (pc' := 30) (L' := (q_L [])) (st' := [.inl 0]) (σ' := σ) (fun _ => rfl) ?_
  exact q_ex_ll (M_isPut_b30_e h) trivial
theorem M_isPut_b0_e {n : Nat} {r0 : (Int32) × J} {l1 : Int32} {l2 : Int32} {σ : J} (h : M_isPut_b0 n l1 l2 σ = some r0) : q_ex q_pr n 0 97 0 (q_L [(0, .inr (.inr (some (24, 0)))), (1, .inl l1), (2, .inl l2)]) [] σ (M_isPut_r r0) := by
  unfold M_isPut_b0 at h
  refine q_by h (fun hz h => ?_)
  refine q_ex_gb 4 (pc' := 6) (L' := (q_L [(0, .inr (.inr (some (24, 0)))), (1, .inl l1), (2, .inl l2)])) (st' := [.inl (σ.2.1 28 0 l2.toNatClampNeg)]) (σ' := σ) (fun _ => rfl) hz ?_
  refine q_ex_br 2 (c := (σ.2.1 28 0 l2.toNatClampNeg) = l1) (pc1 := 10) (pc2 := 29) (L' := (q_L [(0, .inr (.inr (some (24, 0)))), (1, .inl l1), (2, .inl l2)])) (st' := []) (σ' := σ) (fun _ => rfl) (fun hc => ?_) (fun hc => ?_)
  · rw [if_pos hc] at h
    refine q_by h (fun hz h => ?_)
    refine q_ex_gb 4 (pc' := 16) (L' := (q_L [(0, .inr (.inr (some (24, 0)))), (1, .inl l1), (2, .inl l2)])) (st' := [.inl (σ.2.1 29 0 l2.toNatClampNeg)]) (σ' := σ) (fun _ => rfl) hz ?_
    refine q_by h (fun hz h => ?_)
    refine q_ex_gb 4 (pc' := 22) (L' := (q_L [(0, .inr (.inr (some (24, 0)))), (1, .inl l1), (2, .inl l2)])) (st' := [.inl (σ.2.1 34 0 l1.toNatClampNeg), .inl (σ.2.1 29 0 l2.toNatClampNeg)]) (σ' := σ) (fun _ => rfl) hz ?_
    refine q_ex_br 1 (c := (σ.2.1 29 0 l2.toNatClampNeg) = (σ.2.1 34 0 l1.toNatClampNeg)) (pc1 := 25) (pc2 := 29) (L' := (q_L [(0, .inr (.inr (some (24, 0)))), (1, .inl l1), (2, .inl l2)])) (st' := []) (σ' := σ) (fun _ => rfl) (fun hc => ?_) (fun hc => ?_)
    · rw [if_pos hc] at h
      refine q_ex_go 2 (pc' := 30) (L' := (q_L [(0, .inr (.inr (some (24, 0)))), (1, .inl l1), (2, .inl l2)])) (st' := [.inl 1]) (σ' := σ) (fun _ => rfl) ?_
      exact q_ex_ll (M_isPut_b30_e h) trivial
    · rw [if_neg hc] at h
      exact q_ex_ll (M_isPut_b29_e h) trivial
  · rw [if_neg hc] at h
    exact q_ex_ll (M_isPut_b29_e h) trivial
theorem M_isPut_e {n : Nat} {r0 : (Int32) × J} {x1 : Int32} {x2 : Int32} {σ : J} (h : M_isPut n x1 x2 σ = some r0) : q_ex q_pr n 0 97 0 (q_args 0 [.inr (.inr (some (24, 0))), .inl x1, .inl x2]) [] σ (M_isPut_r r0) := q_ex_ll (M_isPut_b0_e h) ⟨rfl, rfl, rfl, trivial⟩
def M_remove_r : J → Res := fun σ => (.inl none, σ)
-- 110: M_remove
def M_remove_b114 (n : Nat) (k2 : Int32 → J → Option (J)) (k114 : Int32 → Int32 → J → Option (J)) (f : Nat) (l2 : Int32) (l3 : Int32) (σ : J) : Option (J) := if ((4 * l2) + 4) ≤ l3 then k2 (l2 + 1) σ else if q_in (l3 + 4) 80 = true then if q_in l3 80 = true then q_bs (q_sA σ 32 0 (upd (σ.2.1 32 0) l3.toNatClampNeg (σ.2.1 32 0 (l3 + 4).toNatClampNeg))) fun σ9 => if q_in (l3 + 4) 80 = true then if q_in l3 80 = true then q_bs (q_sL σ9 33 0 (vp_updL (σ9.2.2.1 33 0) l3.toNatClampNeg (σ9.2.2.1 33 0 (l3 + 4).toNatClampNeg))) fun σ10 => k114 l2 (l3 + 1) σ10 else none else none else none else none
def M_remove_L114 (n : Nat) (k2 : Int32 → J → Option (J)) : Nat → Int32 → Int32 → J → Option (J)
  | 0 => fun _ _ _ => none
  | f + 1 => fun l2 l3 σ => M_remove_b114 n k2 (M_remove_L114 n k2 f) f l2 l3 σ
def M_remove_b2 (n : Nat) (k2 : Int32 → J → Option (J)) (f : Nat) (l2 : Int32) (σ : J) : Option (J) := if (σ.1 24 1 0) ≤ (l2 + 1) then q_bs (q_sI σ 24 1 0 ((σ.1 24 1 0) - 1)) fun σ1 => some σ1 else if q_in (l2 + 1) 20 = true then if q_in l2 20 = true then q_bs (q_sA σ 25 0 (upd (σ.2.1 25 0) l2.toNatClampNeg (σ.2.1 25 0 (l2 + 1).toNatClampNeg))) fun σ2 => if q_in (l2 + 1) 20 = true then if q_in l2 20 = true then q_bs (q_sA σ2 26 0 (upd (σ2.2.1 26 0) l2.toNatClampNeg (σ2.2.1 26 0 (l2 + 1).toNatClampNeg))) fun σ3 => if q_in (l2 + 1) 20 = true then if q_in l2 20 = true then q_bs (q_sA σ3 27 0 (upd (σ3.2.1 27 0) l2.toNatClampNeg (σ3.2.1 27 0 (l2 + 1).toNatClampNeg))) fun σ4 => if q_in (l2 + 1) 20 = true then if q_in l2 20 = true then q_bs (q_sA σ4 28 0 (upd (σ4.2.1 28 0) l2.toNatClampNeg (σ4.2.1 28 0 (l2 + 1).toNatClampNeg))) fun σ5 => if q_in (l2 + 1) 20 = true then if q_in l2 20 = true then q_bs (q_sA σ5 29 0 (upd (σ5.2.1 29 0) l2.toNatClampNeg (σ5.2.1 29 0 (l2 + 1).toNatClampNeg))) fun σ6 => if q_in (l2 + 1) 20 = true then if q_in l2 20 = true then q_bs (q_sA σ6 30 0 (upd (σ6.2.1 30 0) l2.toNatClampNeg (σ6.2.1 30 0 (l2 + 1).toNatClampNeg))) fun σ7 => if q_in (l2 + 1) 20 = true then if q_in l2 20 = true then q_bs (q_sA σ7 31 0 (upd (σ7.2.1 31 0) l2.toNatClampNeg (σ7.2.1 31 0 (l2 + 1).toNatClampNeg))) fun σ8 => M_remove_L114 n k2 f l2 (4 * l2) σ8 else none else none else none else none else none else none else none else none else none else none else none else none else none else none
def M_remove_L2 (n : Nat) : Nat → Int32 → J → Option (J)
  | 0 => fun _ _ => none
  | f + 1 => fun l2 σ => M_remove_b2 n (M_remove_L2 n f) f l2 σ
def M_remove_b0 (n : Nat) (f : Nat) (l1 : Int32) (σ : J) : Option (J) := M_remove_L2 n f l1 σ
def M_remove (n : Nat) (f : Nat) (x1 : Int32) (σ : J) : Option (J) := M_remove_b0 n f x1 σ
theorem M_remove_b114_e {n : Nat} {r0 : J} {k2 : Int32 → J → Option (J)} {k114 : Int32 → Int32 → J → Option (J)} {f : Nat} {l2 : Int32} {l3 : Int32} {σ : J} (hk2 : ∀ {l2 : Int32} {σ : J}, k2 l2 σ = some r0 → q_ex q_pr n 0 110 2 (q_L [(0, .inr (.inr (some (24, 0)))), (2, .inl l2)]) [] σ (M_remove_r r0)) (hk114 : ∀ {l2 : Int32} {l3 : Int32} {σ : J}, k114 l2 l3 σ = some r0 → q_ex q_pr n 0 110 114 (q_L [(0, .inr (.inr (some (24, 0)))), (2, .inl l2), (3, .inl l3)]) [] σ (M_remove_r r0)) (h : M_remove_b114 n k2 k114 f l2 l3 σ = some r0) : q_ex q_pr n 0 110 114 (q_L [(0, .inr (.inr (some (24, 0)))), (2, .inl l2), (3, .inl l3)]) [] σ (M_remove_r r0) := by
  unfold M_remove_b114 at h
  refine q_ex_br 7 (c := ((4 * l2) + 4) ≤ l3) (pc1 := 157) (pc2 := 123) (L' := (q_L [(0, .inr (.inr (some (24, 0)))), (2, .inl l2), (3, .inl l3)])) (st' := []) (σ' := σ) (fun _ => rfl) (fun hc => ?_) (fun hc => ?_)
  · rw [if_pos hc] at h
    refine q_ex_go 2 (pc' := 2) (L' := (q_s1 (q_L [(0, .inr (.inr (some (24, 0)))), (2, .inl l2), (3, .inl l3)]) 2 (.inl (l2 + 1)))) (st' := []) (σ' := σ) (fun _ => rfl) ?_
    exact q_ex_ll (hk2 h) ⟨rfl, rfl, trivial⟩
  · rw [if_neg hc] at h
    refine q_by h (fun hz h => ?_)
    refine q_ex_gb 9 (pc' := 136) (L' := (q_L [(0, .inr (.inr (some (24, 0)))), (2, .inl l2), (3, .inl l3)])) (st' := [.inl (σ.2.1 32 0 (l3 + 4).toNatClampNeg), .inl l3, .inr (.inr (some (32, 0)))]) (σ' := σ) (fun _ => rfl) hz ?_
    refine q_by h (fun hz h => ?_)
    refine q_ex_gb 1 (pc' := 137) (L' := (q_L [(0, .inr (.inr (some (24, 0)))), (2, .inl l2), (3, .inl l3)])) (st' := []) (σ' := (q_sA σ 32 0 (upd (σ.2.1 32 0) l3.toNatClampNeg (σ.2.1 32 0 (l3 + 4).toNatClampNeg)))) (fun _ => rfl) hz ?_
    refine q_nm (G := fun τ => q_ex q_pr n _ 110 137 (q_L [(0, .inr (.inr (some (24, 0)))), (2, .inl l2), (3, .inl l3)]) [] τ _) h (fun σ9 h => ?_)
    refine q_by h (fun hz h => ?_)
    refine q_ex_gb 9 (pc' := 150) (L' := (q_L [(0, .inr (.inr (some (24, 0)))), (2, .inl l2), (3, .inl l3)])) (st' := [.inr (.inl (σ9.2.2.1 33 0 (l3 + 4).toNatClampNeg)), .inl l3, .inr (.inr (some (33, 0)))]) (σ' := σ9) (fun _ => rfl) hz ?_
    refine q_by h (fun hz h => ?_)
    refine q_ex_gb 1 (pc' := 151) (L' := (q_L [(0, .inr (.inr (some (24, 0)))), (2, .inl l2), (3, .inl l3)])) (st' := []) (σ' := (q_sL σ9 33 0 (vp_updL (σ9.2.2.1 33 0) l3.toNatClampNeg (σ9.2.2.1 33 0 (l3 + 4).toNatClampNeg)))) (fun _ => rfl) hz ?_
    refine q_nm (G := fun τ => q_ex q_pr n _ 110 151 (q_L [(0, .inr (.inr (some (24, 0)))), (2, .inl l2), (3, .inl l3)]) [] τ _) h (fun σ10 h => ?_)
    refine q_ex_go 2 (pc' := 114) (L' := (q_s1 (q_L [(0, .inr (.inr (some (24, 0)))), (2, .inl l2), (3, .inl l3)]) 3 (.inl (l3 + 1)))) (st' := []) (σ' := σ10) (fun _ => rfl) ?_
    exact q_ex_ll (hk114 h) ⟨rfl, rfl, rfl, trivial⟩
theorem M_remove_L114_e {n : Nat} {r0 : J} {k2 : Int32 → J → Option (J)} (hk2 : ∀ {l2 : Int32} {σ : J}, k2 l2 σ = some r0 → q_ex q_pr n 0 110 2 (q_L [(0, .inr (.inr (some (24, 0)))), (2, .inl l2)]) [] σ (M_remove_r r0)) (f : Nat) : ∀ {l2 : Int32} {l3 : Int32} {σ : J}, M_remove_L114 n k2 f l2 l3 σ = some r0 → q_ex q_pr n 0 110 114 (q_L [(0, .inr (.inr (some (24, 0)))), (2, .inl l2), (3, .inl l3)]) [] σ (M_remove_r r0) := by
  induction f with
  | zero => intro l2 l3 σ h; cases h
  | succ f ih =>
    intro l2 l3 σ h
    exact M_remove_b114_e (f := f)  hk2 (fun h => ih h) h
theorem M_remove_b2_e {n : Nat} {r0 : J} {k2 : Int32 → J → Option (J)} {f : Nat} {l2 : Int32} {σ : J} (hk2 : ∀ {l2 : Int32} {σ : J}, k2 l2 σ = some r0 → q_ex q_pr n 0 110 2 (q_L [(0, .inr (.inr (some (24, 0)))), (2, .inl l2)]) [] σ (M_remove_r r0)) (h : M_remove_b2 n k2 f l2 σ = some r0) : q_ex q_pr n 0 110 2 (q_L [(0, .inr (.inr (some (24, 0)))), (2, .inl l2)]) [] σ (M_remove_r r0) := by
  unfold M_remove_b2 at h
  refine q_ex_br 6 (c := (σ.1 24 1 0) ≤ (l2 + 1)) (pc1 := 163) (pc2 := 12) (L' := (q_L [(0, .inr (.inr (some (24, 0)))), (2, .inl l2)])) (st' := []) (σ' := σ) (fun _ => rfl) (fun hc => ?_) (fun hc => ?_)
  · rw [if_pos hc] at h
    refine q_ex_go 6 (pc' := 173) (L' := (q_L [(0, .inr (.inr (some (24, 0)))), (2, .inl l2)])) (st' := []) (σ' := (q_sI σ 24 1 0 ((σ.1 24 1 0) - 1))) (fun _ => rfl) ?_
    refine q_nm (G := fun τ => q_ex q_pr n _ 110 173 (q_L [(0, .inr (.inr (some (24, 0)))), (2, .inl l2)]) [] τ _) h (fun σ1 h => ?_)
    cases h
    exact ⟨1, rfl⟩
  · rw [if_neg hc] at h
    refine q_by h (fun hz h => ?_)
    refine q_ex_gb 9 (pc' := 25) (L' := (q_L [(0, .inr (.inr (some (24, 0)))), (2, .inl l2)])) (st' := [.inl (σ.2.1 25 0 (l2 + 1).toNatClampNeg), .inl l2, .inr (.inr (some (25, 0)))]) (σ' := σ) (fun _ => rfl) hz ?_
    refine q_by h (fun hz h => ?_)
    refine q_ex_gb 1 (pc' := 26) (L' := (q_L [(0, .inr (.inr (some (24, 0)))), (2, .inl l2)])) (st' := []) (σ' := (q_sA σ 25 0 (upd (σ.2.1 25 0) l2.toNatClampNeg (σ.2.1 25 0 (l2 + 1).toNatClampNeg)))) (fun _ => rfl) hz ?_
    refine q_nm (G := fun τ => q_ex q_pr n _ 110 26 (q_L [(0, .inr (.inr (some (24, 0)))), (2, .inl l2)]) [] τ _) h (fun σ2 h => ?_)
    refine q_by h (fun hz h => ?_)
    refine q_ex_gb 9 (pc' := 39) (L' := (q_L [(0, .inr (.inr (some (24, 0)))), (2, .inl l2)])) (st' := [.inl (σ2.2.1 26 0 (l2 + 1).toNatClampNeg), .inl l2, .inr (.inr (some (26, 0)))]) (σ' := σ2) (fun _ => rfl) hz ?_
    refine q_by h (fun hz h => ?_)
    refine q_ex_gb 1 (pc' := 40) (L' := (q_L [(0, .inr (.inr (some (24, 0)))), (2, .inl l2)])) (st' := []) (σ' := (q_sA σ2 26 0 (upd (σ2.2.1 26 0) l2.toNatClampNeg (σ2.2.1 26 0 (l2 + 1).toNatClampNeg)))) (fun _ => rfl) hz ?_
    refine q_nm (G := fun τ => q_ex q_pr n _ 110 40 (q_L [(0, .inr (.inr (some (24, 0)))), (2, .inl l2)]) [] τ _) h (fun σ3 h => ?_)
    refine q_by h (fun hz h => ?_)
    refine q_ex_gb 9 (pc' := 53) (L' := (q_L [(0, .inr (.inr (some (24, 0)))), (2, .inl l2)])) (st' := [.inl (σ3.2.1 27 0 (l2 + 1).toNatClampNeg), .inl l2, .inr (.inr (some (27, 0)))]) (σ' := σ3) (fun _ => rfl) hz ?_
    refine q_by h (fun hz h => ?_)
    refine q_ex_gb 1 (pc' := 54) (L' := (q_L [(0, .inr (.inr (some (24, 0)))), (2, .inl l2)])) (st' := []) (σ' := (q_sA σ3 27 0 (upd (σ3.2.1 27 0) l2.toNatClampNeg (σ3.2.1 27 0 (l2 + 1).toNatClampNeg)))) (fun _ => rfl) hz ?_
    refine q_nm (G := fun τ => q_ex q_pr n _ 110 54 (q_L [(0, .inr (.inr (some (24, 0)))), (2, .inl l2)]) [] τ _) h (fun σ4 h => ?_)
    refine q_by h (fun hz h => ?_)
    refine q_ex_gb 9 (pc' := 67) (L' := (q_L [(0, .inr (.inr (some (24, 0)))), (2, .inl l2)])) (st' := [.inl (σ4.2.1 28 0 (l2 + 1).toNatClampNeg), .inl l2, .inr (.inr (some (28, 0)))]) (σ' := σ4) (fun _ => rfl) hz ?_
    refine q_by h (fun hz h => ?_)
    refine q_ex_gb 1 (pc' := 68) (L' := (q_L [(0, .inr (.inr (some (24, 0)))), (2, .inl l2)])) (st' := []) (σ' := (q_sA σ4 28 0 (upd (σ4.2.1 28 0) l2.toNatClampNeg (σ4.2.1 28 0 (l2 + 1).toNatClampNeg)))) (fun _ => rfl) hz ?_
    refine q_nm (G := fun τ => q_ex q_pr n _ 110 68 (q_L [(0, .inr (.inr (some (24, 0)))), (2, .inl l2)]) [] τ _) h (fun σ5 h => ?_)
    refine q_by h (fun hz h => ?_)
    refine q_ex_gb 9 (pc' := 81) (L' := (q_L [(0, .inr (.inr (some (24, 0)))), (2, .inl l2)])) (st' := [.inl (σ5.2.1 29 0 (l2 + 1).toNatClampNeg), .inl l2, .inr (.inr (some (29, 0)))]) (σ' := σ5) (fun _ => rfl) hz ?_
    refine q_by h (fun hz h => ?_)
    refine q_ex_gb 1 (pc' := 82) (L' := (q_L [(0, .inr (.inr (some (24, 0)))), (2, .inl l2)])) (st' := []) (σ' := (q_sA σ5 29 0 (upd (σ5.2.1 29 0) l2.toNatClampNeg (σ5.2.1 29 0 (l2 + 1).toNatClampNeg)))) (fun _ => rfl) hz ?_
    refine q_nm (G := fun τ => q_ex q_pr n _ 110 82 (q_L [(0, .inr (.inr (some (24, 0)))), (2, .inl l2)]) [] τ _) h (fun σ6 h => ?_)
    refine q_by h (fun hz h => ?_)
    refine q_ex_gb 9 (pc' := 95) (L' := (q_L [(0, .inr (.inr (some (24, 0)))), (2, .inl l2)])) (st' := [.inl (σ6.2.1 30 0 (l2 + 1).toNatClampNeg), .inl l2, .inr (.inr (some (30, 0)))]) (σ' := σ6) (fun _ => rfl) hz ?_
    refine q_by h (fun hz h => ?_)
    refine q_ex_gb 1 (pc' := 96) (L' := (q_L [(0, .inr (.inr (some (24, 0)))), (2, .inl l2)])) (st' := []) (σ' := (q_sA σ6 30 0 (upd (σ6.2.1 30 0) l2.toNatClampNeg (σ6.2.1 30 0 (l2 + 1).toNatClampNeg)))) (fun _ => rfl) hz ?_
    refine q_nm (G := fun τ => q_ex q_pr n _ 110 96 (q_L [(0, .inr (.inr (some (24, 0)))), (2, .inl l2)]) [] τ _) h (fun σ7 h => ?_)
    refine q_by h (fun hz h => ?_)
    refine q_ex_gb 9 (pc' := 109) (L' := (q_L [(0, .inr (.inr (some (24, 0)))), (2, .inl l2)])) (st' := [.inl (σ7.2.1 31 0 (l2 + 1).toNatClampNeg), .inl l2, .inr (.inr (some (31, 0)))]) (σ' := σ7) (fun _ => rfl) hz ?_
    refine q_by h (fun hz h => ?_)
    refine q_ex_gb 1 (pc' := 110) (L' := (q_L [(0, .inr (.inr (some (24, 0)))), (2, .inl l2)])) (st' := []) (σ' := (q_sA σ7 31 0 (upd (σ7.2.1 31 0) l2.toNatClampNeg (σ7.2.1 31 0 (l2 + 1).toNatClampNeg)))) (fun _ => rfl) hz ?_
    refine q_nm (G := fun τ => q_ex q_pr n _ 110 110 (q_L [(0, .inr (.inr (some (24, 0)))), (2, .inl l2)]) [] τ _) h (fun σ8 h => ?_)
    refine q_ex_go 4 (pc' := 114) (L' := (q_s1 (q_L [(0, .inr (.inr (some (24, 0)))), (2, .inl l2)]) 3 (.inl (4 * l2)))) (st' := []) (σ' := σ8) (fun _ => rfl) ?_
    exact q_ex_ll (M_remove_L114_e hk2 f h) ⟨rfl, rfl, rfl, trivial⟩
theorem M_remove_L2_e {n : Nat} {r0 : J} (f : Nat) : ∀ {l2 : Int32} {σ : J}, M_remove_L2 n f l2 σ = some r0 → q_ex q_pr n 0 110 2 (q_L [(0, .inr (.inr (some (24, 0)))), (2, .inl l2)]) [] σ (M_remove_r r0) := by
  induction f with
  | zero => intro l2 σ h; cases h
  | succ f ih =>
    intro l2 σ h
    exact M_remove_b2_e (f := f)  (fun h => ih h) h
theorem M_remove_b0_e {n : Nat} {r0 : J} {f : Nat} {l1 : Int32} {σ : J} (h : M_remove_b0 n f l1 σ = some r0) : q_ex q_pr n 0 110 0 (q_L [(0, .inr (.inr (some (24, 0)))), (1, .inl l1)]) [] σ (M_remove_r r0) := by
  unfold M_remove_b0 at h
  refine q_ex_go 2 (pc' := 2) (L' := (q_s1 (q_L [(0, .inr (.inr (some (24, 0)))), (1, .inl l1)]) 2 (.inl l1))) (st' := []) (σ' := σ) (fun _ => rfl) ?_
  exact q_ex_ll (M_remove_L2_e f h) ⟨rfl, rfl, trivial⟩
theorem M_remove_e {n : Nat} {r0 : J} {f : Nat} {x1 : Int32} {σ : J} (h : M_remove n f x1 σ = some r0) : q_ex q_pr n 0 110 0 (q_args 0 [.inr (.inr (some (24, 0))), .inl x1]) [] σ (M_remove_r r0) := q_ex_ll (M_remove_b0_e h) ⟨rfl, rfl, trivial⟩
def M_drop_r : (Int32) × J → Res := fun q => (.inl (some (.inl q.1)), q.2)
-- 86: M_drop
def M_drop_b126 (n : Nat) (f : Nat) (s0 : Int32) (σ : J) : Option ((Int32) × J) := some (s0, σ)
def M_drop_b101 (n : Nat) (k7 : Int32 → Int32 → Int32 → Int32 → J → Option ((Int32) × J)) (f : Nat) (l1 : Int32) (l2 : Int32) (l3 : Int32) (l4 : Int32) (σ : J) : Option ((Int32) × J) := k7 l1 l2 l3 l4 σ
def M_drop_b97 (n : Nat) (k7 : Int32 → Int32 → Int32 → Int32 → J → Option ((Int32) × J)) (f : Nat) (l1 : Int32) (l2 : Int32) (l3 : Int32) (l4 : Int32) (s1 : Int32) (s2 : Int32) (σ : J) : Option ((Int32) × J) := if q_in s1 20 = true then q_bs (q_sA σ 30 0 (upd (σ.2.1 30 0) s1.toNatClampNeg s2)) fun σ5 => M_drop_b101 n k7 f l1 l2 l3 (l4 + 1) σ5 else none
def M_drop_b74 (n : Nat) (k7 : Int32 → Int32 → Int32 → Int32 → J → Option ((Int32) × J)) (f : Nat) (l1 : Int32) (l2 : Int32) (l4 : Int32) (l5 : Int32) (s0 : Int32) (σ : J) : Option ((Int32) × J) := if l5 = 0 then if q_in l4 20 = true then M_drop_b97 n k7 f l1 l2 s0 l4 l4 (σ.2.1 30 0 l4.toNatClampNeg) σ else none else M_drop_b97 n k7 f l1 l2 s0 l4 l4 (-1) σ
def M_drop_b69 (n : Nat) (k7 : Int32 → Int32 → Int32 → Int32 → J → Option ((Int32) × J)) (f : Nat) (l1 : Int32) (l2 : Int32) (l4 : Int32) (l5 : Int32) (σ : J) : Option ((Int32) × J) := M_drop_b74 n k7 f l1 l2 l4 l5 1 σ
def M_drop_b59 (n : Nat) (k7 : Int32 → Int32 → Int32 → Int32 → J → Option ((Int32) × J)) (f : Nat) (l1 : Int32) (l3 : Int32) (l4 : Int32) (l5 : Int32) (s0 : Int32) (σ : J) : Option ((Int32) × J) := if l3 = 0 then if l5 = 0 then M_drop_b74 n k7 f l1 s0 l4 l5 0 σ else M_drop_b69 n k7 f l1 s0 l4 l5 σ else M_drop_b69 n k7 f l1 s0 l4 l5 σ
def M_drop_b7 (n : Nat) (k7 : Int32 → Int32 → Int32 → Int32 → J → Option ((Int32) × J)) (f : Nat) (l1 : Int32) (l2 : Int32) (l3 : Int32) (l4 : Int32) (σ : J) : Option ((Int32) × J) := if (σ.1 24 1 0) ≤ l4 then if q_in l1 4 = true then if q_in l1 4 = true then q_bs (q_sA σ 34 0 (upd (σ.2.1 34 0) l1.toNatClampNeg ((σ.2.1 34 0 l1.toNatClampNeg) - 1))) fun σ1 => if l3 = 0 then M_drop_b126 n f l2 σ1 else M_drop_b126 n f (l2 + 100) σ1 else none else none else (M_isTaken n l1 l4 σ).bind fun q2 => (M_isPut n l1 l4 q2.2).bind fun q3 => if q3.1 = 0 then if q2.1 = 0 then M_drop_b59 n k7 f l1 l3 l4 q2.1 l2 q3.2 else M_drop_b59 n k7 f l1 l3 l4 q2.1 (l2 + 1) q3.2 else (M_remove n f l4 q3.2).bind fun q4 => M_drop_b101 n k7 f l1 (l2 + 1) l3 l4 q4
def M_drop_L7 (n : Nat) : Nat → Int32 → Int32 → Int32 → Int32 → J → Option ((Int32) × J)
  | 0 => fun _ _ _ _ _ => none
  | f + 1 => fun l1 l2 l3 l4 σ => M_drop_b7 n (M_drop_L7 n f) f l1 l2 l3 l4 σ
def M_drop_b0 (n : Nat) (f : Nat) (l1 : Int32) (σ : J) : Option ((Int32) × J) := M_drop_L7 n f l1 0 0 0 σ
def M_drop (n : Nat) (f : Nat) (x1 : Int32) (σ : J) : Option ((Int32) × J) := M_drop_b0 n f x1 σ
theorem M_drop_b126_e {n : Nat} {r0 : (Int32) × J} {f : Nat} {s0 : Int32} {σ : J} (h : M_drop_b126 n f s0 σ = some r0) : q_ex q_pr n 1 86 126 (q_L []) [.inl s0] σ (M_drop_r r0) := by
  unfold M_drop_b126 at h
  cases h
  exact ⟨1, rfl⟩
theorem M_drop_b101_e {n : Nat} {r0 : (Int32) × J} {k7 : Int32 → Int32 → Int32 → Int32 → J → Option ((Int32) × J)} {f : Nat} {l1 : Int32} {l2 : Int32} {l3 : Int32} {l4 : Int32} {σ : J} (hk7 : ∀ {l1 : Int32} {l2 : Int32} {l3 : Int32} {l4 : Int32} {σ : J}, k7 l1 l2 l3 l4 σ = some r0 → q_ex q_pr n 1 86 7 (q_L [(0, .inr (.inr (some (24, 0)))), (1, .inl l1), (2, .inl l2), (3, .inl l3), (4, .inl l4)]) [] σ (M_drop_r r0)) (h : M_drop_b101 n k7 f l1 l2 l3 l4 σ = some r0) : q_ex q_pr n 1 86 101 (q_L [(0, .inr (.inr (some (24, 0)))), (1, .inl l1), (2, .inl l2), (3, .inl l3), (4, .inl l4)]) [] σ (M_drop_r r0) := by
  unfold M_drop_b101 at h
  refine q_ex_go 1 (pc' := 7) (L' := (q_L [(0, .inr (.inr (some (24, 0)))), (1, .inl l1), (2, .inl l2), (3, .inl l3), (4, .inl l4)])) (st' := []) (σ' := σ) (fun _ => rfl) ?_
  exact q_ex_ll (hk7 h) ⟨rfl, rfl, rfl, rfl, rfl, trivial⟩
theorem M_drop_b97_e {n : Nat} {r0 : (Int32) × J} {k7 : Int32 → Int32 → Int32 → Int32 → J → Option ((Int32) × J)} {f : Nat} {l1 : Int32} {l2 : Int32} {l3 : Int32} {l4 : Int32} {s1 : Int32} {s2 : Int32} {σ : J} (hk7 : ∀ {l1 : Int32} {l2 : Int32} {l3 : Int32} {l4 : Int32} {σ : J}, k7 l1 l2 l3 l4 σ = some r0 → q_ex q_pr n 1 86 7 (q_L [(0, .inr (.inr (some (24, 0)))), (1, .inl l1), (2, .inl l2), (3, .inl l3), (4, .inl l4)]) [] σ (M_drop_r r0)) (h : M_drop_b97 n k7 f l1 l2 l3 l4 s1 s2 σ = some r0) : q_ex q_pr n 1 86 97 (q_L [(0, .inr (.inr (some (24, 0)))), (1, .inl l1), (2, .inl l2), (3, .inl l3), (4, .inl l4)]) [.inl s2, .inl s1, .inr (.inr (some (30, 0)))] σ (M_drop_r r0) := by
  unfold M_drop_b97 at h
  refine q_by h (fun hz h => ?_)
  refine q_ex_gb 1 (pc' := 98) (L' := (q_L [(0, .inr (.inr (some (24, 0)))), (1, .inl l1), (2, .inl l2), (3, .inl l3), (4, .inl l4)])) (st' := []) (σ' := (q_sA σ 30 0 (upd (σ.2.1 30 0) s1.toNatClampNeg s2))) (fun _ => rfl) hz ?_
  refine q_nm (G := fun τ => q_ex q_pr n _ 86 98 (q_L [(0, .inr (.inr (some (24, 0)))), (1, .inl l1), (2, .inl l2), (3, .inl l3), (4, .inl l4)]) [] τ _) h (fun σ5 h => ?_)
  refine q_ex_go 1 (pc' := 101) (L' := (q_s1 (q_L [(0, .inr (.inr (some (24, 0)))), (1, .inl l1), (2, .inl l2), (3, .inl l3), (4, .inl l4)]) 4 (.inl (l4 + 1)))) (st' := []) (σ' := σ5) (fun _ => rfl) ?_
  exact q_ex_ll (M_drop_b101_e hk7 h) ⟨rfl, rfl, rfl, rfl, rfl, trivial⟩
theorem M_drop_b74_e {n : Nat} {r0 : (Int32) × J} {k7 : Int32 → Int32 → Int32 → Int32 → J → Option ((Int32) × J)} {f : Nat} {l1 : Int32} {l2 : Int32} {l4 : Int32} {l5 : Int32} {s0 : Int32} {σ : J} (hk7 : ∀ {l1 : Int32} {l2 : Int32} {l3 : Int32} {l4 : Int32} {σ : J}, k7 l1 l2 l3 l4 σ = some r0 → q_ex q_pr n 1 86 7 (q_L [(0, .inr (.inr (some (24, 0)))), (1, .inl l1), (2, .inl l2), (3, .inl l3), (4, .inl l4)]) [] σ (M_drop_r r0)) (h : M_drop_b74 n k7 f l1 l2 l4 l5 s0 σ = some r0) : q_ex q_pr n 1 86 74 (q_L [(0, .inr (.inr (some (24, 0)))), (1, .inl l1), (2, .inl l2), (4, .inl l4), (5, .inl l5)]) [.inl s0] σ (M_drop_r r0) := by
  unfold M_drop_b74 at h
  refine q_ex_br 6 (c := l5 = 0) (pc1 := 90) (pc2 := 86) (L' := (q_s1 (q_L [(0, .inr (.inr (some (24, 0)))), (1, .inl l1), (2, .inl l2), (4, .inl l4), (5, .inl l5)]) 3 (.inl s0))) (st' := [.inl l4, .inr (.inr (some (30, 0)))]) (σ' := σ) (fun _ => rfl) (fun hc => ?_) (fun hc => ?_)
  · rw [if_pos hc] at h
    refine q_by h (fun hz h => ?_)
    refine q_ex_gb 4 (pc' := 97) (L' := (q_s1 (q_L [(0, .inr (.inr (some (24, 0)))), (1, .inl l1), (2, .inl l2), (4, .inl l4), (5, .inl l5)]) 3 (.inl s0))) (st' := [.inl (σ.2.1 30 0 l4.toNatClampNeg), .inl l4, .inr (.inr (some (30, 0)))]) (σ' := σ) (fun _ => rfl) hz ?_
    exact q_ex_ll (M_drop_b97_e hk7 h) ⟨rfl, rfl, rfl, rfl, rfl, trivial⟩
  · rw [if_neg hc] at h
    refine q_ex_go 2 (pc' := 97) (L' := (q_s1 (q_L [(0, .inr (.inr (some (24, 0)))), (1, .inl l1), (2, .inl l2), (4, .inl l4), (5, .inl l5)]) 3 (.inl s0))) (st' := [.inl (-1), .inl l4, .inr (.inr (some (30, 0)))]) (σ' := σ) (fun _ => rfl) ?_
    exact q_ex_ll (M_drop_b97_e hk7 h) ⟨rfl, rfl, rfl, rfl, rfl, trivial⟩
theorem M_drop_b69_e {n : Nat} {r0 : (Int32) × J} {k7 : Int32 → Int32 → Int32 → Int32 → J → Option ((Int32) × J)} {f : Nat} {l1 : Int32} {l2 : Int32} {l4 : Int32} {l5 : Int32} {σ : J} (hk7 : ∀ {l1 : Int32} {l2 : Int32} {l3 : Int32} {l4 : Int32} {σ : J}, k7 l1 l2 l3 l4 σ = some r0 → q_ex q_pr n 1 86 7 (q_L [(0, .inr (.inr (some (24, 0)))), (1, .inl l1), (2, .inl l2), (3, .inl l3), (4, .inl l4)]) [] σ (M_drop_r r0)) (h : M_drop_b69 n k7 f l1 l2 l4 l5 σ = some r0) : q_ex q_pr n 1 86 69 (q_L [(0, .inr (.inr (some (24, 0)))), (1, .inl l1), (2, .inl l2), (4, .inl l4), (5, .inl l5)]) [] σ (M_drop_r r0) := by
  unfold M_drop_b69 at h
  refine q_ex_go 2 (pc' := 74) (L' := (q_L [(0, .inr (.inr (some (24, 0)))), (1, .inl l1), (2, .inl l2), (4, .inl l4), (5, .inl l5)])) (st' := [.inl 1]) (σ' := σ) (fun _ => rfl) ?_
  exact q_ex_ll (M_drop_b74_e hk7 h) ⟨rfl, rfl, rfl, rfl, rfl, trivial⟩
theorem M_drop_b59_e {n : Nat} {r0 : (Int32) × J} {k7 : Int32 → Int32 → Int32 → Int32 → J → Option ((Int32) × J)} {f : Nat} {l1 : Int32} {l3 : Int32} {l4 : Int32} {l5 : Int32} {s0 : Int32} {σ : J} (hk7 : ∀ {l1 : Int32} {l2 : Int32} {l3 : Int32} {l4 : Int32} {σ : J}, k7 l1 l2 l3 l4 σ = some r0 → q_ex q_pr n 1 86 7 (q_L [(0, .inr (.inr (some (24, 0)))), (1, .inl l1), (2, .inl l2), (3, .inl l3), (4, .inl l4)]) [] σ (M_drop_r r0)) (h : M_drop_b59 n k7 f l1 l3 l4 l5 s0 σ = some r0) : q_ex q_pr n 1 86 59 (q_L [(0, .inr (.inr (some (24, 0)))), (1, .inl l1), (3, .inl l3), (4, .inl l4), (5, .inl l5)]) [.inl s0] σ (M_drop_r r0) := by
  unfold M_drop_b59 at h
  refine q_ex_br 3 (c := l3 = 0) (pc1 := 64) (pc2 := 69) (L' := (q_s1 (q_L [(0, .inr (.inr (some (24, 0)))), (1, .inl l1), (3, .inl l3), (4, .inl l4), (5, .inl l5)]) 2 (.inl s0))) (st' := []) (σ' := σ) (fun _ => rfl) (fun hc => ?_) (fun hc => ?_)
  · rw [if_pos hc] at h
    refine q_ex_br 2 (c := l5 = 0) (pc1 := 73) (pc2 := 69) (L' := (q_s1 (q_L [(0, .inr (.inr (some (24, 0)))), (1, .inl l1), (3, .inl l3), (4, .inl l4), (5, .inl l5)]) 2 (.inl s0))) (st' := []) (σ' := σ) (fun _ => rfl) (fun hc => ?_) (fun hc => ?_)
    · rw [if_pos hc] at h
      refine q_ex_go 1 (pc' := 74) (L' := (q_s1 (q_L [(0, .inr (.inr (some (24, 0)))), (1, .inl l1), (3, .inl l3), (4, .inl l4), (5, .inl l5)]) 2 (.inl s0))) (st' := [.inl 0]) (σ' := σ) (fun _ => rfl) ?_
      exact q_ex_ll (M_drop_b74_e hk7 h) ⟨rfl, rfl, rfl, rfl, rfl, trivial⟩
    · rw [if_neg hc] at h
      exact q_ex_ll (M_drop_b69_e hk7 h) ⟨rfl, rfl, rfl, rfl, rfl, trivial⟩
  · rw [if_neg hc] at h
    exact q_ex_ll (M_drop_b69_e hk7 h) ⟨rfl, rfl, rfl, rfl, rfl, trivial⟩
theorem M_drop_b7_e {n : Nat} {r0 : (Int32) × J} {k7 : Int32 → Int32 → Int32 → Int32 → J → Option ((Int32) × J)} {f : Nat} {l1 : Int32} {l2 : Int32} {l3 : Int32} {l4 : Int32} {σ : J} (hk7 : ∀ {l1 : Int32} {l2 : Int32} {l3 : Int32} {l4 : Int32} {σ : J}, k7 l1 l2 l3 l4 σ = some r0 → q_ex q_pr n 1 86 7 (q_L [(0, .inr (.inr (some (24, 0)))), (1, .inl l1), (2, .inl l2), (3, .inl l3), (4, .inl l4)]) [] σ (M_drop_r r0)) (h : M_drop_b7 n k7 f l1 l2 l3 l4 σ = some r0) : q_ex q_pr n 1 86 7 (q_L [(0, .inr (.inr (some (24, 0)))), (1, .inl l1), (2, .inl l2), (3, .inl l3), (4, .inl l4)]) [] σ (M_drop_r r0) := by
  unfold M_drop_b7 at h
  refine q_ex_br 4 (c := (σ.1 24 1 0) ≤ l4) (pc1 := 104) (pc2 := 16) (L' := (q_L [(0, .inr (.inr (some (24, 0)))), (1, .inl l1), (2, .inl l2), (3, .inl l3), (4, .inl l4)])) (st' := []) (σ' := σ) (fun _ => rfl) (fun hc => ?_) (fun hc => ?_)
  · rw [if_pos hc] at h
    refine q_by h (fun hz h => ?_)
    refine q_ex_gb 5 (pc' := 111) (L' := (q_L [(0, .inr (.inr (some (24, 0)))), (1, .inl l1), (2, .inl l2), (3, .inl l3), (4, .inl l4)])) (st' := [.inl (σ.2.1 34 0 l1.toNatClampNeg), .inl l1, .inr (.inr (some (34, 0)))]) (σ' := σ) (fun _ => rfl) hz ?_
    refine q_by h (fun hz h => ?_)
    refine q_ex_gb 3 (pc' := 114) (L' := (q_L [(0, .inr (.inr (some (24, 0)))), (1, .inl l1), (2, .inl l2), (3, .inl l3), (4, .inl l4)])) (st' := []) (σ' := (q_sA σ 34 0 (upd (σ.2.1 34 0) l1.toNatClampNeg ((σ.2.1 34 0 l1.toNatClampNeg) - 1)))) (fun _ => rfl) hz ?_
    refine q_nm (G := fun τ => q_ex q_pr n _ 86 114 (q_L [(0, .inr (.inr (some (24, 0)))), (1, .inl l1), (2, .inl l2), (3, .inl l3), (4, .inl l4)]) [] τ _) h (fun σ1 h => ?_)
    refine q_ex_br 2 (c := l3 = 0) (pc1 := 125) (pc2 := 118) (L' := (q_L [(0, .inr (.inr (some (24, 0)))), (1, .inl l1), (2, .inl l2), (3, .inl l3), (4, .inl l4)])) (st' := []) (σ' := σ1) (fun _ => rfl) (fun hc => ?_) (fun hc => ?_)
    · rw [if_pos hc] at h
      refine q_ex_go 1 (pc' := 126) (L' := (q_L [(0, .inr (.inr (some (24, 0)))), (1, .inl l1), (2, .inl l2), (3, .inl l3), (4, .inl l4)])) (st' := [.inl l2]) (σ' := σ1) (fun _ => rfl) ?_
      exact q_ex_ll (M_drop_b126_e h) trivial
    · rw [if_neg hc] at h
      refine q_ex_go 4 (pc' := 126) (L' := (q_L [(0, .inr (.inr (some (24, 0)))), (1, .inl l1), (2, .inl l2), (3, .inl l3), (4, .inl l4)])) (st' := [.inl (l2 + 100)]) (σ' := σ1) (fun _ => rfl) ?_
      exact q_ex_ll (M_drop_b126_e h) trivial
  · rw [if_neg hc] at h
    obtain ⟨q2, hq2, h⟩ := Option.bind_eq_some_iff.mp h
    refine q_ex_ca 4 (k1 := 99) (vs := [.inr (.inr (some (24, 0))), .inl l1, .inl l4]) (pc' := 23) (L' := (q_L [(0, .inr (.inr (some (24, 0)))), (1, .inl l1), (2, .inl l2), (3, .inl l3), (4, .inl l4)])) (rest := []) (σ' := σ) (fun _ => rfl) (q_ex_dd (M_isTaken_e hq2) (Nat.le_of_ble_eq_true rfl)) rfl ?_
    obtain ⟨q3, hq3, h⟩ := Option.bind_eq_some_iff.mp h
    refine q_ex_ca 5 (k1 := 97) (vs := [.inr (.inr (some (24, 0))), .inl l1, .inl l4]) (pc' := 32) (L' := (q_s1 (q_L [(0, .inr (.inr (some (24, 0)))), (1, .inl l1), (2, .inl l2), (3, .inl l3), (4, .inl l4)]) 5 (.inl q2.1))) (rest := []) (σ' := q2.2) (fun _ => rfl) (q_ex_dd (M_isPut_e hq3) (Nat.le_of_ble_eq_true rfl)) rfl ?_
    refine q_ex_br 1 (c := q3.1 = 0) (pc1 := 47) (pc2 := 35) (L' := (q_s1 (q_L [(0, .inr (.inr (some (24, 0)))), (1, .inl l1), (2, .inl l2), (3, .inl l3), (4, .inl l4)]) 5 (.inl q2.1))) (st' := []) (σ' := q3.2) (fun _ => rfl) (fun hc => ?_) (fun hc => ?_)
    · rw [if_pos hc] at h
      refine q_ex_br 2 (c := q2.1 = 0) (pc1 := 58) (pc2 := 52) (L' := (q_s1 (q_L [(0, .inr (.inr (some (24, 0)))), (1, .inl l1), (2, .inl l2), (3, .inl l3), (4, .inl l4)]) 5 (.inl q2.1))) (st' := []) (σ' := q3.2) (fun _ => rfl) (fun hc => ?_) (fun hc => ?_)
      · rw [if_pos hc] at h
        refine q_ex_go 1 (pc' := 59) (L' := (q_s1 (q_L [(0, .inr (.inr (some (24, 0)))), (1, .inl l1), (2, .inl l2), (3, .inl l3), (4, .inl l4)]) 5 (.inl q2.1))) (st' := [.inl l2]) (σ' := q3.2) (fun _ => rfl) ?_
        exact q_ex_ll (M_drop_b59_e hk7 h) ⟨rfl, rfl, rfl, rfl, rfl, trivial⟩
      · rw [if_neg hc] at h
        refine q_ex_go 4 (pc' := 59) (L' := (q_s1 (q_L [(0, .inr (.inr (some (24, 0)))), (1, .inl l1), (2, .inl l2), (3, .inl l3), (4, .inl l4)]) 5 (.inl q2.1))) (st' := [.inl (l2 + 1)]) (σ' := q3.2) (fun _ => rfl) ?_
        exact q_ex_ll (M_drop_b59_e hk7 h) ⟨rfl, rfl, rfl, rfl, rfl, trivial⟩
    · rw [if_neg hc] at h
      obtain ⟨q4, hq4, h⟩ := Option.bind_eq_some_iff.mp h
      refine q_ex_ca 4 (k1 := 110) (vs := [.inr (.inr (some (24, 0))), .inl l4]) (pc' := 44) (L' := (q_s1 (q_s1 (q_L [(0, .inr (.inr (some (24, 0)))), (1, .inl l1), (2, .inl l2), (3, .inl l3), (4, .inl l4)]) 5 (.inl q2.1)) 2 (.inl (l2 + 1)))) (rest := []) (σ' := q3.2) (fun _ => rfl) (q_ex_dd (M_remove_e hq4) (Nat.le_of_ble_eq_true rfl)) rfl ?_
      refine q_ex_go 1 (pc' := 101) (L' := (q_s1 (q_s1 (q_L [(0, .inr (.inr (some (24, 0)))), (1, .inl l1), (2, .inl l2), (3, .inl l3), (4, .inl l4)]) 5 (.inl q2.1)) 2 (.inl (l2 + 1)))) (st' := []) (σ' := q4) (fun _ => rfl) ?_
      exact q_ex_ll (M_drop_b101_e hk7 h) ⟨rfl, rfl, rfl, rfl, rfl, trivial⟩
theorem M_drop_L7_e {n : Nat} {r0 : (Int32) × J} (f : Nat) : ∀ {l1 : Int32} {l2 : Int32} {l3 : Int32} {l4 : Int32} {σ : J}, M_drop_L7 n f l1 l2 l3 l4 σ = some r0 → q_ex q_pr n 1 86 7 (q_L [(0, .inr (.inr (some (24, 0)))), (1, .inl l1), (2, .inl l2), (3, .inl l3), (4, .inl l4)]) [] σ (M_drop_r r0) := by
  induction f with
  | zero => intro l1 l2 l3 l4 σ h; cases h
  | succ f ih =>
    intro l1 l2 l3 l4 σ h
    exact M_drop_b7_e (f := f)  (fun h => ih h) h
theorem M_drop_b0_e {n : Nat} {r0 : (Int32) × J} {f : Nat} {l1 : Int32} {σ : J} (h : M_drop_b0 n f l1 σ = some r0) : q_ex q_pr n 1 86 0 (q_L [(0, .inr (.inr (some (24, 0)))), (1, .inl l1)]) [] σ (M_drop_r r0) := by
  unfold M_drop_b0 at h
  refine q_ex_go 6 (pc' := 7) (L' := (q_s1 (q_s1 (q_s1 (q_L [(0, .inr (.inr (some (24, 0)))), (1, .inl l1)]) 2 (.inl 0)) 3 (.inl 0)) 4 (.inl 0))) (st' := []) (σ' := σ) (fun _ => rfl) ?_
  exact q_ex_ll (M_drop_L7_e f h) ⟨rfl, rfl, rfl, rfl, rfl, trivial⟩
theorem M_drop_e {n : Nat} {r0 : (Int32) × J} {f : Nat} {x1 : Int32} {σ : J} (h : M_drop n f x1 σ = some r0) : q_ex q_pr n 1 86 0 (q_args 0 [.inr (.inr (some (24, 0))), .inl x1]) [] σ (M_drop_r r0) := q_ex_ll (M_drop_b0_e h) ⟨rfl, rfl, trivial⟩
def M_sees_r : (Int32) × J → Res := fun q => (.inl (some (.inl q.1)), q.2)
-- 114: M_sees
def M_sees_b33 (n : Nat) (s0 : Int32) (σ : J) : Option ((Int32) × J) := if s0 &&& 1 = s0 then some (s0, σ) else none
def M_sees_b32 (n : Nat) (σ : J) : Option ((Int32) × J) := M_sees_b33 n 0 σ
def M_sees_b28 (n : Nat) (σ : J) : Option ((Int32) × J) := M_sees_b33 n 1 σ
def M_sees_b0 (n : Nat) (l1 : Int32) (l2 : Int32) (σ : J) : Option ((Int32) × J) := if q_in l2 20 = true then if 0 ≤ (σ.2.1 30 0 l2.toNatClampNeg) then M_sees_b32 n σ else if q_in l2 20 = true then if (σ.2.1 28 0 l2.toNatClampNeg) < 0 then M_sees_b28 n σ else if q_in l2 20 = true then if (σ.2.1 28 0 l2.toNatClampNeg) = l1 then M_sees_b28 n σ else M_sees_b32 n σ else none else none else none
def M_sees (n : Nat) (x1 : Int32) (x2 : Int32) (σ : J) : Option ((Int32) × J) := M_sees_b0 n x1 x2 σ
theorem M_sees_b33_e {n : Nat} {r0 : (Int32) × J} {s0 : Int32} {σ : J} (h : M_sees_b33 n s0 σ = some r0) : q_ex q_pr n 0 114 33 (q_L []) [.inl s0] σ (M_sees_r r0) := by
  unfold M_sees_b33 at h
  refine q_by h (fun hz h => ?_)
  cases h
  exact ⟨1, if_pos (e := (none : Option Res)) hz⟩
theorem M_sees_b32_e {n : Nat} {r0 : (Int32) × J} {σ : J} (h : M_sees_b32 n σ = some r0) : q_ex q_pr n 0 114 32 (q_L []) [] σ (M_sees_r r0) := by
  unfold M_sees_b32 at h
  refine q_ex_go 1 (pc' := 33) (L' := (q_L [])) (st' := [.inl 0]) (σ' := σ) (fun _ => rfl) ?_
  exact q_ex_ll (M_sees_b33_e h) trivial
theorem M_sees_b28_e {n : Nat} {r0 : (Int32) × J} {σ : J} (h : M_sees_b28 n σ = some r0) : q_ex q_pr n 0 114 28 (q_L []) [] σ (M_sees_r r0) := by
  unfold M_sees_b28 at h
  refine q_ex_go 2 (pc' := 33) (L' := (q_L [])) (st' := [.inl 1]) (σ' := σ) (fun _ => rfl) ?_
  exact q_ex_ll (M_sees_b33_e h) trivial
theorem M_sees_b0_e {n : Nat} {r0 : (Int32) × J} {l1 : Int32} {l2 : Int32} {σ : J} (h : M_sees_b0 n l1 l2 σ = some r0) : q_ex q_pr n 0 114 0 (q_L [(0, .inr (.inr (some (24, 0)))), (1, .inl l1), (2, .inl l2)]) [] σ (M_sees_r r0) := by
  unfold M_sees_b0 at h
  refine q_by h (fun hz h => ?_)
  refine q_ex_gb 4 (pc' := 6) (L' := (q_L [(0, .inr (.inr (some (24, 0)))), (1, .inl l1), (2, .inl l2)])) (st' := [.inl (σ.2.1 30 0 l2.toNatClampNeg)]) (σ' := σ) (fun _ => rfl) hz ?_
  refine q_ex_br 1 (c := 0 ≤ (σ.2.1 30 0 l2.toNatClampNeg)) (pc1 := 32) (pc2 := 9) (L' := (q_L [(0, .inr (.inr (some (24, 0)))), (1, .inl l1), (2, .inl l2)])) (st' := []) (σ' := σ) (fun _ => rfl) (fun hc => ?_) (fun hc => ?_)
  · rw [if_pos hc] at h
    exact q_ex_ll (M_sees_b32_e h) trivial
  · rw [if_neg hc] at h
    refine q_by h (fun hz h => ?_)
    refine q_ex_gb 4 (pc' := 15) (L' := (q_L [(0, .inr (.inr (some (24, 0)))), (1, .inl l1), (2, .inl l2)])) (st' := [.inl (σ.2.1 28 0 l2.toNatClampNeg)]) (σ' := σ) (fun _ => rfl) hz ?_
    refine q_ex_br 1 (c := (σ.2.1 28 0 l2.toNatClampNeg) < 0) (pc1 := 28) (pc2 := 18) (L' := (q_L [(0, .inr (.inr (some (24, 0)))), (1, .inl l1), (2, .inl l2)])) (st' := []) (σ' := σ) (fun _ => rfl) (fun hc => ?_) (fun hc => ?_)
    · rw [if_pos hc] at h
      exact q_ex_ll (M_sees_b28_e h) trivial
    · rw [if_neg hc] at h
      refine q_by h (fun hz h => ?_)
      refine q_ex_gb 4 (pc' := 24) (L' := (q_L [(0, .inr (.inr (some (24, 0)))), (1, .inl l1), (2, .inl l2)])) (st' := [.inl (σ.2.1 28 0 l2.toNatClampNeg)]) (σ' := σ) (fun _ => rfl) hz ?_
      refine q_ex_br 2 (c := (σ.2.1 28 0 l2.toNatClampNeg) = l1) (pc1 := 28) (pc2 := 32) (L' := (q_L [(0, .inr (.inr (some (24, 0)))), (1, .inl l1), (2, .inl l2)])) (st' := []) (σ' := σ) (fun _ => rfl) (fun hc => ?_) (fun hc => ?_)
      · rw [if_pos hc] at h
        exact q_ex_ll (M_sees_b28_e h) trivial
      · rw [if_neg hc] at h
        exact q_ex_ll (M_sees_b32_e h) trivial
theorem M_sees_e {n : Nat} {r0 : (Int32) × J} {x1 : Int32} {x2 : Int32} {σ : J} (h : M_sees n x1 x2 σ = some r0) : q_ex q_pr n 0 114 0 (q_args 0 [.inr (.inr (some (24, 0))), .inl x1, .inl x2]) [] σ (M_sees_r r0) := q_ex_ll (M_sees_b0_e h) ⟨rfl, rfl, rfl, trivial⟩
def M_bound_r : (Int32) × J → Res := fun q => (.inl (some (.inl q.1)), q.2)
-- 82: M_bound
def M_bound_b70 (n : Nat) (s0 : Int32) (σ : J) : Option ((Int32) × J) := if s0 &&& 1 = s0 then some (s0, σ) else none
def M_bound_b69 (n : Nat) (σ : J) : Option ((Int32) × J) := M_bound_b70 n 0 σ
def M_bound_b34 (n : Nat) (l1 : Int32) (l2 : Int32) (σ : J) : Option ((Int32) × J) := if q_in l2 16 = true then if q_in l1 80 = true then if (σ.2.1 52 0 l2.toNatClampNeg) = (σ.2.1 32 0 l1.toNatClampNeg) then if q_in l2 16 = true then if q_in l1 80 = true then if (lg_cmp (σ.2.2.1 53 0 l2.toNatClampNeg) (σ.2.2.1 33 0 l1.toNatClampNeg)) = 0 then M_bound_b70 n 1 σ else M_bound_b69 n σ else none else none else M_bound_b69 n σ else none else none
def M_bound_b0 (n : Nat) (l1 : Int32) (l2 : Int32) (σ : J) : Option ((Int32) × J) := if q_in l2 16 = true then if (σ.2.1 52 0 l2.toNatClampNeg) = (-1) then if q_in l1 80 = true then if q_in l2 16 = true then q_bs (q_sA σ 52 0 (upd (σ.2.1 52 0) l2.toNatClampNeg (σ.2.1 32 0 l1.toNatClampNeg))) fun σ1 => if q_in l1 80 = true then if q_in l2 16 = true then q_bs (q_sL σ1 53 0 (vp_updL (σ1.2.2.1 53 0) l2.toNatClampNeg (σ1.2.2.1 33 0 l1.toNatClampNeg))) fun σ2 => M_bound_b34 n l1 l2 σ2 else none else none else none else none else M_bound_b34 n l1 l2 σ else none
def M_bound (n : Nat) (x1 : Int32) (x2 : Int32) (σ : J) : Option ((Int32) × J) := M_bound_b0 n x1 x2 σ
theorem M_bound_b70_e {n : Nat} {r0 : (Int32) × J} {s0 : Int32} {σ : J} (h : M_bound_b70 n s0 σ = some r0) : q_ex q_pr n 0 82 70 (q_L []) [.inl s0] σ (M_bound_r r0) := by
  unfold M_bound_b70 at h
  refine q_by h (fun hz h => ?_)
  cases h
  exact ⟨1, if_pos (e := (none : Option Res)) hz⟩
theorem M_bound_b69_e {n : Nat} {r0 : (Int32) × J} {σ : J} (h : M_bound_b69 n σ = some r0) : q_ex q_pr n 0 82 69 (q_L []) [] σ (M_bound_r r0) := by
  unfold M_bound_b69 at h
  refine q_ex_go 1 (pc' := 70) (L' := (q_L [])) (st' := [.inl 0]) (σ' := σ) (fun _ => rfl) ?_
  exact q_ex_ll (M_bound_b70_e h) trivial
theorem M_bound_b34_e {n : Nat} {r0 : (Int32) × J} {l1 : Int32} {l2 : Int32} {σ : J} (h : M_bound_b34 n l1 l2 σ = some r0) : q_ex q_pr n 0 82 34 (q_L [(0, .inr (.inr (some (24, 0)))), (1, .inl l1), (2, .inl l2)]) [] σ (M_bound_r r0) := by
  unfold M_bound_b34 at h
  refine q_by h (fun hz h => ?_)
  refine q_ex_gb 4 (pc' := 40) (L' := (q_L [(0, .inr (.inr (some (24, 0)))), (1, .inl l1), (2, .inl l2)])) (st' := [.inl (σ.2.1 52 0 l2.toNatClampNeg)]) (σ' := σ) (fun _ => rfl) hz ?_
  refine q_by h (fun hz h => ?_)
  refine q_ex_gb 4 (pc' := 46) (L' := (q_L [(0, .inr (.inr (some (24, 0)))), (1, .inl l1), (2, .inl l2)])) (st' := [.inl (σ.2.1 32 0 l1.toNatClampNeg), .inl (σ.2.1 52 0 l2.toNatClampNeg)]) (σ' := σ) (fun _ => rfl) hz ?_
  refine q_ex_br 1 (c := (σ.2.1 52 0 l2.toNatClampNeg) = (σ.2.1 32 0 l1.toNatClampNeg)) (pc1 := 49) (pc2 := 69) (L' := (q_L [(0, .inr (.inr (some (24, 0)))), (1, .inl l1), (2, .inl l2)])) (st' := []) (σ' := σ) (fun _ => rfl) (fun hc => ?_) (fun hc => ?_)
  · rw [if_pos hc] at h
    refine q_by h (fun hz h => ?_)
    refine q_ex_gb 4 (pc' := 55) (L' := (q_L [(0, .inr (.inr (some (24, 0)))), (1, .inl l1), (2, .inl l2)])) (st' := [.inr (.inl (σ.2.2.1 53 0 l2.toNatClampNeg))]) (σ' := σ) (fun _ => rfl) hz ?_
    refine q_by h (fun hz h => ?_)
    refine q_ex_gb 4 (pc' := 61) (L' := (q_L [(0, .inr (.inr (some (24, 0)))), (1, .inl l1), (2, .inl l2)])) (st' := [.inr (.inl (σ.2.2.1 33 0 l1.toNatClampNeg)), .inr (.inl (σ.2.2.1 53 0 l2.toNatClampNeg))]) (σ' := σ) (fun _ => rfl) hz ?_
    refine q_ex_br 2 (c := (lg_cmp (σ.2.2.1 53 0 l2.toNatClampNeg) (σ.2.2.1 33 0 l1.toNatClampNeg)) = 0) (pc1 := 65) (pc2 := 69) (L' := (q_L [(0, .inr (.inr (some (24, 0)))), (1, .inl l1), (2, .inl l2)])) (st' := []) (σ' := σ) (fun _ => rfl) (fun hc => ?_) (fun hc => ?_)
    · rw [if_pos hc] at h
      refine q_ex_go 2 (pc' := 70) (L' := (q_L [(0, .inr (.inr (some (24, 0)))), (1, .inl l1), (2, .inl l2)])) (st' := [.inl 1]) (σ' := σ) (fun _ => rfl) ?_
      exact q_ex_ll (M_bound_b70_e h) trivial
    · rw [if_neg hc] at h
      exact q_ex_ll (M_bound_b69_e h) trivial
  · rw [if_neg hc] at h
    exact q_ex_ll (M_bound_b69_e h) trivial
theorem M_bound_b0_e {n : Nat} {r0 : (Int32) × J} {l1 : Int32} {l2 : Int32} {σ : J} (h : M_bound_b0 n l1 l2 σ = some r0) : q_ex q_pr n 0 82 0 (q_L [(0, .inr (.inr (some (24, 0)))), (1, .inl l1), (2, .inl l2)]) [] σ (M_bound_r r0) := by
  unfold M_bound_b0 at h
  refine q_by h (fun hz h => ?_)
  refine q_ex_gb 4 (pc' := 6) (L' := (q_L [(0, .inr (.inr (some (24, 0)))), (1, .inl l1), (2, .inl l2)])) (st' := [.inl (σ.2.1 52 0 l2.toNatClampNeg)]) (σ' := σ) (fun _ => rfl) hz ?_
  refine q_ex_br 2 (c := (σ.2.1 52 0 l2.toNatClampNeg) = (-1)) (pc1 := 10) (pc2 := 34) (L' := (q_L [(0, .inr (.inr (some (24, 0)))), (1, .inl l1), (2, .inl l2)])) (st' := []) (σ' := σ) (fun _ => rfl) (fun hc => ?_) (fun hc => ?_)
  · rw [if_pos hc] at h
    refine q_by h (fun hz h => ?_)
    refine q_ex_gb 7 (pc' := 21) (L' := (q_L [(0, .inr (.inr (some (24, 0)))), (1, .inl l1), (2, .inl l2)])) (st' := [.inl (σ.2.1 32 0 l1.toNatClampNeg), .inl l2, .inr (.inr (some (52, 0)))]) (σ' := σ) (fun _ => rfl) hz ?_
    refine q_by h (fun hz h => ?_)
    refine q_ex_gb 1 (pc' := 22) (L' := (q_L [(0, .inr (.inr (some (24, 0)))), (1, .inl l1), (2, .inl l2)])) (st' := []) (σ' := (q_sA σ 52 0 (upd (σ.2.1 52 0) l2.toNatClampNeg (σ.2.1 32 0 l1.toNatClampNeg)))) (fun _ => rfl) hz ?_
    refine q_nm (G := fun τ => q_ex q_pr n _ 82 22 (q_L [(0, .inr (.inr (some (24, 0)))), (1, .inl l1), (2, .inl l2)]) [] τ _) h (fun σ1 h => ?_)
    refine q_by h (fun hz h => ?_)
    refine q_ex_gb 7 (pc' := 33) (L' := (q_L [(0, .inr (.inr (some (24, 0)))), (1, .inl l1), (2, .inl l2)])) (st' := [.inr (.inl (σ1.2.2.1 33 0 l1.toNatClampNeg)), .inl l2, .inr (.inr (some (53, 0)))]) (σ' := σ1) (fun _ => rfl) hz ?_
    refine q_by h (fun hz h => ?_)
    refine q_ex_gb 1 (pc' := 34) (L' := (q_L [(0, .inr (.inr (some (24, 0)))), (1, .inl l1), (2, .inl l2)])) (st' := []) (σ' := (q_sL σ1 53 0 (vp_updL (σ1.2.2.1 53 0) l2.toNatClampNeg (σ1.2.2.1 33 0 l1.toNatClampNeg)))) (fun _ => rfl) hz ?_
    refine q_nm (G := fun τ => q_ex q_pr n _ 82 34 (q_L [(0, .inr (.inr (some (24, 0)))), (1, .inl l1), (2, .inl l2)]) [] τ _) h (fun σ2 h => ?_)
    exact q_ex_ll (M_bound_b34_e h) ⟨rfl, rfl, rfl, trivial⟩
  · rw [if_neg hc] at h
    exact q_ex_ll (M_bound_b34_e h) ⟨rfl, rfl, rfl, trivial⟩
theorem M_bound_e {n : Nat} {r0 : (Int32) × J} {x1 : Int32} {x2 : Int32} {σ : J} (h : M_bound n x1 x2 σ = some r0) : q_ex q_pr n 0 82 0 (q_args 0 [.inr (.inr (some (24, 0))), .inl x1, .inl x2]) [] σ (M_bound_r r0) := q_ex_ll (M_bound_b0_e h) ⟨rfl, rfl, rfl, trivial⟩
def M_within_r : (Int32) × J → Res := fun q => (.inl (some (.inl q.1)), q.2)
-- 122: M_within
def M_within_b17 (n : Nat) (s0 : Int32) (σ : J) : Option ((Int32) × J) := if s0 &&& 1 = s0 then some (s0, σ) else none
def M_within_b16 (n : Nat) (σ : J) : Option ((Int32) × J) := M_within_b17 n 0 σ
def M_within_b0 (n : Nat) (l0 : Int64) (l2 : Int64) (σ : J) : Option ((Int32) × J) := if (lg_cmp l0 0) < 0 then M_within_b16 n σ else if 0 < (lg_cmp l0 l2) then M_within_b16 n σ else M_within_b17 n 1 σ
def M_within (n : Nat) (x0 : Int64) (x2 : Int64) (σ : J) : Option ((Int32) × J) := M_within_b0 n x0 x2 σ
theorem M_within_b17_e {n : Nat} {r0 : (Int32) × J} {s0 : Int32} {σ : J} (h : M_within_b17 n s0 σ = some r0) : q_ex q_pr n 0 122 17 (q_L []) [.inl s0] σ (M_within_r r0) := by
  unfold M_within_b17 at h
  refine q_by h (fun hz h => ?_)
  cases h
  exact ⟨1, if_pos (e := (none : Option Res)) hz⟩
theorem M_within_b16_e {n : Nat} {r0 : (Int32) × J} {σ : J} (h : M_within_b16 n σ = some r0) : q_ex q_pr n 0 122 16 (q_L []) [] σ (M_within_r r0) := by
  unfold M_within_b16 at h
  refine q_ex_go 1 (pc' := 17) (L' := (q_L [])) (st' := [.inl 0]) (σ' := σ) (fun _ => rfl) ?_
  exact q_ex_ll (M_within_b17_e h) trivial
theorem M_within_b0_e {n : Nat} {r0 : (Int32) × J} {l0 : Int64} {l2 : Int64} {σ : J} (h : M_within_b0 n l0 l2 σ = some r0) : q_ex q_pr n 0 122 0 (q_L [(0, .inr (.inl l0)), (2, .inr (.inl l2))]) [] σ (M_within_r r0) := by
  unfold M_within_b0 at h
  refine q_ex_br 4 (c := (lg_cmp l0 0) < 0) (pc1 := 16) (pc2 := 6) (L' := (q_L [(0, .inr (.inl l0)), (2, .inr (.inl l2))])) (st' := []) (σ' := σ) (fun _ => rfl) (fun hc => ?_) (fun hc => ?_)
  · rw [if_pos hc] at h
    exact q_ex_ll (M_within_b16_e h) trivial
  · rw [if_neg hc] at h
    refine q_ex_br 4 (c := 0 < (lg_cmp l0 l2)) (pc1 := 16) (pc2 := 12) (L' := (q_L [(0, .inr (.inl l0)), (2, .inr (.inl l2))])) (st' := []) (σ' := σ) (fun _ => rfl) (fun hc => ?_) (fun hc => ?_)
    · rw [if_pos hc] at h
      exact q_ex_ll (M_within_b16_e h) trivial
    · rw [if_neg hc] at h
      refine q_ex_go 2 (pc' := 17) (L' := (q_L [(0, .inr (.inl l0)), (2, .inr (.inl l2))])) (st' := [.inl 1]) (σ' := σ) (fun _ => rfl) ?_
      exact q_ex_ll (M_within_b17_e h) trivial
theorem M_within_e {n : Nat} {r0 : (Int32) × J} {x0 : Int64} {x2 : Int64} {σ : J} (h : M_within n x0 x2 σ = some r0) : q_ex q_pr n 0 122 0 (q_args 0 [.inr (.inl x0), .inr (.inl x2)]) [] σ (M_within_r r0) := q_ex_ll (M_within_b0_e h) ⟨rfl, rfl, trivial⟩
def M_holds_r : (Int32) × J → Res := fun q => (.inl (some (.inl q.1)), q.2)
-- 96: M_holds
def M_holds_b111 (n : Nat) (s0 : Int32) (σ : J) : Option ((Int32) × J) := if s0 &&& 1 = s0 then some (s0, σ) else none
def M_holds_b110 (n : Nat) (σ : J) : Option ((Int32) × J) := M_holds_b111 n 0 σ
def M_holds_b138 (n : Nat) (s0 : Int32) (σ : J) : Option ((Int32) × J) := if s0 &&& 1 = s0 then some (s0, σ) else none
def M_holds_b133 (n : Nat) (σ : J) : Option ((Int32) × J) := M_holds_b138 n 1 σ
def M_holds_b169 (n : Nat) (s0 : Int32) (σ : J) : Option ((Int32) × J) := if s0 &&& 1 = s0 then some (s0, σ) else none
def M_holds_b168 (n : Nat) (σ : J) : Option ((Int32) × J) := M_holds_b169 n 0 σ
def M_holds_b200 (n : Nat) (s0 : Int32) (σ : J) : Option ((Int32) × J) := if s0 &&& 1 = s0 then some (s0, σ) else none
def M_holds_b199 (n : Nat) (σ : J) : Option ((Int32) × J) := M_holds_b200 n 0 σ
def M_holds_b247 (n : Nat) (s0 : Int32) (σ : J) : Option ((Int32) × J) := if s0 &&& 1 = s0 then some (s0, σ) else none
def M_holds_b246 (n : Nat) (σ : J) : Option ((Int32) × J) := M_holds_b247 n 0 σ
def M_holds_b322 (n : Nat) (s0 : Int32) (σ : J) : Option ((Int32) × J) := if s0 &&& 1 = s0 then some (s0, σ) else none
def M_holds_b321 (n : Nat) (σ : J) : Option ((Int32) × J) := M_holds_b322 n 0 σ
def M_holds_b369 (n : Nat) (s0 : Int32) (σ : J) : Option ((Int32) × J) := if s0 &&& 1 = s0 then some (s0, σ) else none
def M_holds_b368 (n : Nat) (σ : J) : Option ((Int32) × J) := M_holds_b369 n 0 σ
def M_holds_b22 (n : Nat) (l1 : Int32) (l2 : Int32) (l3 : Int32) (s0 : Int32) (σ : J) : Option ((Int32) × J) := if q_in l2 72 = true then if (σ.2.1 39 0 l2.toNatClampNeg) = Int32.ofNat 0 then if (1 : Int32) &&& 1 = 1 then some (1, σ) else none else if (σ.2.1 39 0 l2.toNatClampNeg) = Int32.ofNat 1 then if s0 &&& 1 = s0 then some (s0, σ) else none else if (σ.2.1 39 0 l2.toNatClampNeg) = Int32.ofNat 2 then if s0 = 0 then M_holds_b110 n σ else if q_in l1 80 = true then if q_in l2 72 = true then if (lg_cmp (σ.2.2.1 33 0 l1.toNatClampNeg) (σ.2.2.1 41 0 l2.toNatClampNeg)) = 0 then M_holds_b111 n 1 σ else M_holds_b110 n σ else none else none else if (σ.2.1 39 0 l2.toNatClampNeg) = Int32.ofNat 3 then if s0 = 0 then M_holds_b133 n σ else if q_in l1 80 = true then if q_in l2 72 = true then if (lg_cmp (σ.2.2.1 33 0 l1.toNatClampNeg) (σ.2.2.1 41 0 l2.toNatClampNeg)) = 0 then M_holds_b138 n 0 σ else M_holds_b133 n σ else none else none else if (σ.2.1 39 0 l2.toNatClampNeg) = Int32.ofNat 4 then if q_in l1 80 = true then if (σ.2.1 32 0 l1.toNatClampNeg) = 0 then if q_in l1 80 = true then if q_in l2 72 = true then if 0 ≤ (lg_cmp (σ.2.2.1 33 0 l1.toNatClampNeg) (σ.2.2.1 41 0 l2.toNatClampNeg)) then M_holds_b168 n σ else M_holds_b169 n 1 σ else none else none else M_holds_b168 n σ else none else if (σ.2.1 39 0 l2.toNatClampNeg) = Int32.ofNat 5 then if q_in l1 80 = true then if (σ.2.1 32 0 l1.toNatClampNeg) = 0 then if q_in l1 80 = true then if q_in l2 72 = true then if (lg_cmp (σ.2.2.1 33 0 l1.toNatClampNeg) (σ.2.2.1 41 0 l2.toNatClampNeg)) ≤ 0 then M_holds_b199 n σ else M_holds_b200 n 1 σ else none else none else M_holds_b199 n σ else none else if (σ.2.1 39 0 l2.toNatClampNeg) = Int32.ofNat 6 then if q_in l1 80 = true then if (σ.2.1 32 0 l1.toNatClampNeg) = 0 then if q_in l1 80 = true then if q_in l2 72 = true then if (lg_cmp (σ.2.2.1 33 0 l1.toNatClampNeg) (σ.2.2.1 40 0 l2.toNatClampNeg)) < 0 then M_holds_b246 n σ else if q_in l1 80 = true then if q_in l2 72 = true then if 0 < (lg_cmp (σ.2.2.1 33 0 l1.toNatClampNeg) (σ.2.2.1 41 0 l2.toNatClampNeg)) then M_holds_b246 n σ else M_holds_b247 n 1 σ else none else none else none else none else M_holds_b246 n σ else none else if (σ.2.1 39 0 l2.toNatClampNeg) = Int32.ofNat 7 then if q_in l2 72 = true then (M_bound n l1 (((4 * l3) + 4) + ((σ.2.2.1 40 0 l2.toNatClampNeg).toInt32)) σ).bind fun q1 => if q1.1 &&& 1 = q1.1 then some (q1.1, q1.2) else none else none else if (σ.2.1 39 0 l2.toNatClampNeg) = Int32.ofNat 8 then if q_in l1 80 = true then if (σ.2.1 32 0 l1.toNatClampNeg) = 2 then if q_in l2 72 = true then if 0 ≤ (lg_cmp (σ.2.2.1 40 0 l2.toNatClampNeg) l3.toInt64) then M_holds_b321 n σ else if q_in l1 80 = true then if q_in l2 72 = true then if q_in ((σ.2.2.1 40 0 l2.toNatClampNeg).toInt32) 3 = true then if q_in (σ.2.1 54 0 ((σ.2.2.1 40 0 l2.toNatClampNeg).toInt32).toNatClampNeg) 20 = true then if (lg_cmp (σ.2.2.1 33 0 l1.toNatClampNeg) ((σ.2.1 25 0 (σ.2.1 54 0 ((σ.2.2.1 40 0 l2.toNatClampNeg).toInt32).toNatClampNeg).toNatClampNeg).toInt64)) = 0 then M_holds_b322 n 1 σ else M_holds_b321 n σ else none else none else none else none else none else M_holds_b321 n σ else none else if s0 = 0 then M_holds_b368 n σ else if q_in l1 80 = true then (M_within n (σ.2.2.1 33 0 l1.toNatClampNeg) 63 σ).bind fun q2 => if q2.1 = 0 then M_holds_b368 n q2.2 else if q_in l2 72 = true then if q_in l1 80 = true then if (lg_cmp (((q2.2.2.2.1 41 0 l2.toNatClampNeg) >>> (((q2.2.2.2.1 33 0 l1.toNatClampNeg).toInt32).toInt64 &&& 63)) &&& 1) 1) = 0 then M_holds_b369 n 1 q2.2 else M_holds_b368 n q2.2 else none else none else none else none
def M_holds_b0 (n : Nat) (l1 : Int32) (l2 : Int32) (l3 : Int32) (σ : J) : Option ((Int32) × J) := if q_in l1 80 = true then if q_in l2 72 = true then if (lg_cmp ((σ.2.1 32 0 l1.toNatClampNeg).toInt64) (σ.2.2.1 40 0 l2.toNatClampNeg)) = 0 then M_holds_b22 n l1 l2 l3 1 σ else M_holds_b22 n l1 l2 l3 0 σ else none else none
def M_holds (n : Nat) (x1 : Int32) (x2 : Int32) (x3 : Int32) (σ : J) : Option ((Int32) × J) := M_holds_b0 n x1 x2 x3 σ
theorem M_holds_b111_e {n : Nat} {r0 : (Int32) × J} {s0 : Int32} {σ : J} (h : M_holds_b111 n s0 σ = some r0) : q_ex q_pr n 1 96 111 (q_L []) [.inl s0] σ (M_holds_r r0) := by
  unfold M_holds_b111 at h
  refine q_by h (fun hz h => ?_)
  cases h
  exact ⟨1, if_pos (e := (none : Option Res)) hz⟩
theorem M_holds_b110_e {n : Nat} {r0 : (Int32) × J} {σ : J} (h : M_holds_b110 n σ = some r0) : q_ex q_pr n 1 96 110 (q_L []) [] σ (M_holds_r r0) := by
  unfold M_holds_b110 at h
  refine q_ex_go 1 (pc' := 111) (L' := (q_L [])) (st' := [.inl 0]) (σ' := σ) (fun _ => rfl) ?_
  exact q_ex_ll (M_holds_b111_e h) trivial
theorem M_holds_b138_e {n : Nat} {r0 : (Int32) × J} {s0 : Int32} {σ : J} (h : M_holds_b138 n s0 σ = some r0) : q_ex q_pr n 1 96 138 (q_L []) [.inl s0] σ (M_holds_r r0) := by
  unfold M_holds_b138 at h
  refine q_by h (fun hz h => ?_)
  cases h
  exact ⟨1, if_pos (e := (none : Option Res)) hz⟩
theorem M_holds_b133_e {n : Nat} {r0 : (Int32) × J} {σ : J} (h : M_holds_b133 n σ = some r0) : q_ex q_pr n 1 96 133 (q_L []) [] σ (M_holds_r r0) := by
  unfold M_holds_b133 at h
  refine q_ex_go 2 (pc' := 138) (L' := (q_L [])) (st' := [.inl 1]) (σ' := σ) (fun _ => rfl) ?_
  exact q_ex_ll (M_holds_b138_e h) trivial
theorem M_holds_b169_e {n : Nat} {r0 : (Int32) × J} {s0 : Int32} {σ : J} (h : M_holds_b169 n s0 σ = some r0) : q_ex q_pr n 1 96 169 (q_L []) [.inl s0] σ (M_holds_r r0) := by
  unfold M_holds_b169 at h
  refine q_by h (fun hz h => ?_)
  cases h
  exact ⟨1, if_pos (e := (none : Option Res)) hz⟩
theorem M_holds_b168_e {n : Nat} {r0 : (Int32) × J} {σ : J} (h : M_holds_b168 n σ = some r0) : q_ex q_pr n 1 96 168 (q_L []) [] σ (M_holds_r r0) := by
  unfold M_holds_b168 at h
  refine q_ex_go 1 (pc' := 169) (L' := (q_L [])) (st' := [.inl 0]) (σ' := σ) (fun _ => rfl) ?_
  exact q_ex_ll (M_holds_b169_e h) trivial
theorem M_holds_b200_e {n : Nat} {r0 : (Int32) × J} {s0 : Int32} {σ : J} (h : M_holds_b200 n s0 σ = some r0) : q_ex q_pr n 1 96 200 (q_L []) [.inl s0] σ (M_holds_r r0) := by
  unfold M_holds_b200 at h
  refine q_by h (fun hz h => ?_)
  cases h
  exact ⟨1, if_pos (e := (none : Option Res)) hz⟩
theorem M_holds_b199_e {n : Nat} {r0 : (Int32) × J} {σ : J} (h : M_holds_b199 n σ = some r0) : q_ex q_pr n 1 96 199 (q_L []) [] σ (M_holds_r r0) := by
  unfold M_holds_b199 at h
  refine q_ex_go 1 (pc' := 200) (L' := (q_L [])) (st' := [.inl 0]) (σ' := σ) (fun _ => rfl) ?_
  exact q_ex_ll (M_holds_b200_e h) trivial
theorem M_holds_b247_e {n : Nat} {r0 : (Int32) × J} {s0 : Int32} {σ : J} (h : M_holds_b247 n s0 σ = some r0) : q_ex q_pr n 1 96 247 (q_L []) [.inl s0] σ (M_holds_r r0) := by
  unfold M_holds_b247 at h
  refine q_by h (fun hz h => ?_)
  cases h
  exact ⟨1, if_pos (e := (none : Option Res)) hz⟩
theorem M_holds_b246_e {n : Nat} {r0 : (Int32) × J} {σ : J} (h : M_holds_b246 n σ = some r0) : q_ex q_pr n 1 96 246 (q_L []) [] σ (M_holds_r r0) := by
  unfold M_holds_b246 at h
  refine q_ex_go 1 (pc' := 247) (L' := (q_L [])) (st' := [.inl 0]) (σ' := σ) (fun _ => rfl) ?_
  exact q_ex_ll (M_holds_b247_e h) trivial
theorem M_holds_b322_e {n : Nat} {r0 : (Int32) × J} {s0 : Int32} {σ : J} (h : M_holds_b322 n s0 σ = some r0) : q_ex q_pr n 1 96 322 (q_L []) [.inl s0] σ (M_holds_r r0) := by
  unfold M_holds_b322 at h
  refine q_by h (fun hz h => ?_)
  cases h
  exact ⟨1, if_pos (e := (none : Option Res)) hz⟩
theorem M_holds_b321_e {n : Nat} {r0 : (Int32) × J} {σ : J} (h : M_holds_b321 n σ = some r0) : q_ex q_pr n 1 96 321 (q_L []) [] σ (M_holds_r r0) := by
  unfold M_holds_b321 at h
  refine q_ex_go 1 (pc' := 322) (L' := (q_L [])) (st' := [.inl 0]) (σ' := σ) (fun _ => rfl) ?_
  exact q_ex_ll (M_holds_b322_e h) trivial
theorem M_holds_b369_e {n : Nat} {r0 : (Int32) × J} {s0 : Int32} {σ : J} (h : M_holds_b369 n s0 σ = some r0) : q_ex q_pr n 1 96 369 (q_L []) [.inl s0] σ (M_holds_r r0) := by
  unfold M_holds_b369 at h
  refine q_by h (fun hz h => ?_)
  cases h
  exact ⟨1, if_pos (e := (none : Option Res)) hz⟩
theorem M_holds_b368_e {n : Nat} {r0 : (Int32) × J} {σ : J} (h : M_holds_b368 n σ = some r0) : q_ex q_pr n 1 96 368 (q_L []) [] σ (M_holds_r r0) := by
  unfold M_holds_b368 at h
  refine q_ex_go 1 (pc' := 369) (L' := (q_L [])) (st' := [.inl 0]) (σ' := σ) (fun _ => rfl) ?_
  exact q_ex_ll (M_holds_b369_e h) trivial
theorem M_holds_b22_e {n : Nat} {r0 : (Int32) × J} {l1 : Int32} {l2 : Int32} {l3 : Int32} {s0 : Int32} {σ : J} (h : M_holds_b22 n l1 l2 l3 s0 σ = some r0) : q_ex q_pr n 1 96 22 (q_L [(0, .inr (.inr (some (24, 0)))), (1, .inl l1), (2, .inl l2), (3, .inl l3)]) [.inl s0] σ (M_holds_r r0) := by
  unfold M_holds_b22 at h
  refine q_by h (fun hz h => ?_)
  refine q_ex_gb 5 (pc' := 30) (L' := (q_s1 (q_L [(0, .inr (.inr (some (24, 0)))), (1, .inl l1), (2, .inl l2), (3, .inl l3)]) 4 (.inl s0))) (st' := [.inl (σ.2.1 39 0 l2.toNatClampNeg)]) (σ' := σ) (fun _ => rfl) hz ?_
  refine q_ex_sw 1 (x := (σ.2.1 39 0 l2.toNatClampNeg)) (lo := 0) (ts := [80, 82, 85, 112, 139, 170, 201, 248, 267]) (t := 323) (L' := (q_s1 (q_L [(0, .inr (.inr (some (24, 0)))), (1, .inl l1), (2, .inl l2), (3, .inl l3)]) 4 (.inl s0))) (st' := []) (σ' := σ) (fun _ => rfl) ?_
  refine q_sw_c (fun (hc : (σ.2.1 39 0 l2.toNatClampNeg) = Int32.ofNat 0) => ?_) (fun (hc : ¬ (σ.2.1 39 0 l2.toNatClampNeg) = Int32.ofNat 0) => ?_)
  · rw [if_pos hc] at h
    refine q_ex_go 1 (pc' := 81) (L' := (q_s1 (q_L [(0, .inr (.inr (some (24, 0)))), (1, .inl l1), (2, .inl l2), (3, .inl l3)]) 4 (.inl s0))) (st' := [.inl 1]) (σ' := σ) (fun _ => rfl) ?_
    refine q_by h (fun hz h => ?_)
    cases h
    exact ⟨1, if_pos (e := (none : Option Res)) hz⟩
  rw [if_neg hc] at h
  refine q_sw_c (fun (hc : (σ.2.1 39 0 l2.toNatClampNeg) = Int32.ofNat 1) => ?_) (fun (hc : ¬ (σ.2.1 39 0 l2.toNatClampNeg) = Int32.ofNat 1) => ?_)
  · rw [if_pos hc] at h
    refine q_ex_go 1 (pc' := 84) (L' := (q_s1 (q_L [(0, .inr (.inr (some (24, 0)))), (1, .inl l1), (2, .inl l2), (3, .inl l3)]) 4 (.inl s0))) (st' := [.inl s0]) (σ' := σ) (fun _ => rfl) ?_
    refine q_by h (fun hz h => ?_)
    cases h
    exact ⟨1, if_pos (e := (none : Option Res)) hz⟩
  rw [if_neg hc] at h
  refine q_sw_c (fun (hc : (σ.2.1 39 0 l2.toNatClampNeg) = Int32.ofNat 2) => ?_) (fun (hc : ¬ (σ.2.1 39 0 l2.toNatClampNeg) = Int32.ofNat 2) => ?_)
  · rw [if_pos hc] at h
    refine q_ex_br 2 (c := s0 = 0) (pc1 := 110) (pc2 := 90) (L' := (q_s1 (q_L [(0, .inr (.inr (some (24, 0)))), (1, .inl l1), (2, .inl l2), (3, .inl l3)]) 4 (.inl s0))) (st' := []) (σ' := σ) (fun _ => rfl) (fun hc => ?_) (fun hc => ?_)
    · rw [if_pos hc] at h
      exact q_ex_ll (M_holds_b110_e h) trivial
    · rw [if_neg hc] at h
      refine q_by h (fun hz h => ?_)
      refine q_ex_gb 4 (pc' := 96) (L' := (q_s1 (q_L [(0, .inr (.inr (some (24, 0)))), (1, .inl l1), (2, .inl l2), (3, .inl l3)]) 4 (.inl s0))) (st' := [.inr (.inl (σ.2.2.1 33 0 l1.toNatClampNeg))]) (σ' := σ) (fun _ => rfl) hz ?_
      refine q_by h (fun hz h => ?_)
      refine q_ex_gb 4 (pc' := 102) (L' := (q_s1 (q_L [(0, .inr (.inr (some (24, 0)))), (1, .inl l1), (2, .inl l2), (3, .inl l3)]) 4 (.inl s0))) (st' := [.inr (.inl (σ.2.2.1 41 0 l2.toNatClampNeg)), .inr (.inl (σ.2.2.1 33 0 l1.toNatClampNeg))]) (σ' := σ) (fun _ => rfl) hz ?_
      refine q_ex_br 2 (c := (lg_cmp (σ.2.2.1 33 0 l1.toNatClampNeg) (σ.2.2.1 41 0 l2.toNatClampNeg)) = 0) (pc1 := 106) (pc2 := 110) (L' := (q_s1 (q_L [(0, .inr (.inr (some (24, 0)))), (1, .inl l1), (2, .inl l2), (3, .inl l3)]) 4 (.inl s0))) (st' := []) (σ' := σ) (fun _ => rfl) (fun hc => ?_) (fun hc => ?_)
      · rw [if_pos hc] at h
        refine q_ex_go 2 (pc' := 111) (L' := (q_s1 (q_L [(0, .inr (.inr (some (24, 0)))), (1, .inl l1), (2, .inl l2), (3, .inl l3)]) 4 (.inl s0))) (st' := [.inl 1]) (σ' := σ) (fun _ => rfl) ?_
        exact q_ex_ll (M_holds_b111_e h) trivial
      · rw [if_neg hc] at h
        exact q_ex_ll (M_holds_b110_e h) trivial
  rw [if_neg hc] at h
  refine q_sw_c (fun (hc : (σ.2.1 39 0 l2.toNatClampNeg) = Int32.ofNat 3) => ?_) (fun (hc : ¬ (σ.2.1 39 0 l2.toNatClampNeg) = Int32.ofNat 3) => ?_)
  · rw [if_pos hc] at h
    refine q_ex_br 2 (c := s0 = 0) (pc1 := 133) (pc2 := 117) (L' := (q_s1 (q_L [(0, .inr (.inr (some (24, 0)))), (1, .inl l1), (2, .inl l2), (3, .inl l3)]) 4 (.inl s0))) (st' := []) (σ' := σ) (fun _ => rfl) (fun hc => ?_) (fun hc => ?_)
    · rw [if_pos hc] at h
      exact q_ex_ll (M_holds_b133_e h) trivial
    · rw [if_neg hc] at h
      refine q_by h (fun hz h => ?_)
      refine q_ex_gb 4 (pc' := 123) (L' := (q_s1 (q_L [(0, .inr (.inr (some (24, 0)))), (1, .inl l1), (2, .inl l2), (3, .inl l3)]) 4 (.inl s0))) (st' := [.inr (.inl (σ.2.2.1 33 0 l1.toNatClampNeg))]) (σ' := σ) (fun _ => rfl) hz ?_
      refine q_by h (fun hz h => ?_)
      refine q_ex_gb 4 (pc' := 129) (L' := (q_s1 (q_L [(0, .inr (.inr (some (24, 0)))), (1, .inl l1), (2, .inl l2), (3, .inl l3)]) 4 (.inl s0))) (st' := [.inr (.inl (σ.2.2.1 41 0 l2.toNatClampNeg)), .inr (.inl (σ.2.2.1 33 0 l1.toNatClampNeg))]) (σ' := σ) (fun _ => rfl) hz ?_
      refine q_ex_br 2 (c := (lg_cmp (σ.2.2.1 33 0 l1.toNatClampNeg) (σ.2.2.1 41 0 l2.toNatClampNeg)) = 0) (pc1 := 137) (pc2 := 133) (L' := (q_s1 (q_L [(0, .inr (.inr (some (24, 0)))), (1, .inl l1), (2, .inl l2), (3, .inl l3)]) 4 (.inl s0))) (st' := []) (σ' := σ) (fun _ => rfl) (fun hc => ?_) (fun hc => ?_)
      · rw [if_pos hc] at h
        refine q_ex_go 1 (pc' := 138) (L' := (q_s1 (q_L [(0, .inr (.inr (some (24, 0)))), (1, .inl l1), (2, .inl l2), (3, .inl l3)]) 4 (.inl s0))) (st' := [.inl 0]) (σ' := σ) (fun _ => rfl) ?_
        exact q_ex_ll (M_holds_b138_e h) trivial
      · rw [if_neg hc] at h
        exact q_ex_ll (M_holds_b133_e h) trivial
  rw [if_neg hc] at h
  refine q_sw_c (fun (hc : (σ.2.1 39 0 l2.toNatClampNeg) = Int32.ofNat 4) => ?_) (fun (hc : ¬ (σ.2.1 39 0 l2.toNatClampNeg) = Int32.ofNat 4) => ?_)
  · rw [if_pos hc] at h
    refine q_by h (fun hz h => ?_)
    refine q_ex_gb 4 (pc' := 145) (L' := (q_s1 (q_L [(0, .inr (.inr (some (24, 0)))), (1, .inl l1), (2, .inl l2), (3, .inl l3)]) 4 (.inl s0))) (st' := [.inl (σ.2.1 32 0 l1.toNatClampNeg)]) (σ' := σ) (fun _ => rfl) hz ?_
    refine q_ex_br 1 (c := (σ.2.1 32 0 l1.toNatClampNeg) = 0) (pc1 := 148) (pc2 := 168) (L' := (q_s1 (q_L [(0, .inr (.inr (some (24, 0)))), (1, .inl l1), (2, .inl l2), (3, .inl l3)]) 4 (.inl s0))) (st' := []) (σ' := σ) (fun _ => rfl) (fun hc => ?_) (fun hc => ?_)
    · rw [if_pos hc] at h
      refine q_by h (fun hz h => ?_)
      refine q_ex_gb 4 (pc' := 154) (L' := (q_s1 (q_L [(0, .inr (.inr (some (24, 0)))), (1, .inl l1), (2, .inl l2), (3, .inl l3)]) 4 (.inl s0))) (st' := [.inr (.inl (σ.2.2.1 33 0 l1.toNatClampNeg))]) (σ' := σ) (fun _ => rfl) hz ?_
      refine q_by h (fun hz h => ?_)
      refine q_ex_gb 4 (pc' := 160) (L' := (q_s1 (q_L [(0, .inr (.inr (some (24, 0)))), (1, .inl l1), (2, .inl l2), (3, .inl l3)]) 4 (.inl s0))) (st' := [.inr (.inl (σ.2.2.1 41 0 l2.toNatClampNeg)), .inr (.inl (σ.2.2.1 33 0 l1.toNatClampNeg))]) (σ' := σ) (fun _ => rfl) hz ?_
      refine q_ex_br 2 (c := 0 ≤ (lg_cmp (σ.2.2.1 33 0 l1.toNatClampNeg) (σ.2.2.1 41 0 l2.toNatClampNeg))) (pc1 := 168) (pc2 := 164) (L' := (q_s1 (q_L [(0, .inr (.inr (some (24, 0)))), (1, .inl l1), (2, .inl l2), (3, .inl l3)]) 4 (.inl s0))) (st' := []) (σ' := σ) (fun _ => rfl) (fun hc => ?_) (fun hc => ?_)
      · rw [if_pos hc] at h
        exact q_ex_ll (M_holds_b168_e h) trivial
      · rw [if_neg hc] at h
        refine q_ex_go 2 (pc' := 169) (L' := (q_s1 (q_L [(0, .inr (.inr (some (24, 0)))), (1, .inl l1), (2, .inl l2), (3, .inl l3)]) 4 (.inl s0))) (st' := [.inl 1]) (σ' := σ) (fun _ => rfl) ?_
        exact q_ex_ll (M_holds_b169_e h) trivial
    · rw [if_neg hc] at h
      exact q_ex_ll (M_holds_b168_e h) trivial
  rw [if_neg hc] at h
  refine q_sw_c (fun (hc : (σ.2.1 39 0 l2.toNatClampNeg) = Int32.ofNat 5) => ?_) (fun (hc : ¬ (σ.2.1 39 0 l2.toNatClampNeg) = Int32.ofNat 5) => ?_)
  · rw [if_pos hc] at h
    refine q_by h (fun hz h => ?_)
    refine q_ex_gb 4 (pc' := 176) (L' := (q_s1 (q_L [(0, .inr (.inr (some (24, 0)))), (1, .inl l1), (2, .inl l2), (3, .inl l3)]) 4 (.inl s0))) (st' := [.inl (σ.2.1 32 0 l1.toNatClampNeg)]) (σ' := σ) (fun _ => rfl) hz ?_
    refine q_ex_br 1 (c := (σ.2.1 32 0 l1.toNatClampNeg) = 0) (pc1 := 179) (pc2 := 199) (L' := (q_s1 (q_L [(0, .inr (.inr (some (24, 0)))), (1, .inl l1), (2, .inl l2), (3, .inl l3)]) 4 (.inl s0))) (st' := []) (σ' := σ) (fun _ => rfl) (fun hc => ?_) (fun hc => ?_)
    · rw [if_pos hc] at h
      refine q_by h (fun hz h => ?_)
      refine q_ex_gb 4 (pc' := 185) (L' := (q_s1 (q_L [(0, .inr (.inr (some (24, 0)))), (1, .inl l1), (2, .inl l2), (3, .inl l3)]) 4 (.inl s0))) (st' := [.inr (.inl (σ.2.2.1 33 0 l1.toNatClampNeg))]) (σ' := σ) (fun _ => rfl) hz ?_
      refine q_by h (fun hz h => ?_)
      refine q_ex_gb 4 (pc' := 191) (L' := (q_s1 (q_L [(0, .inr (.inr (some (24, 0)))), (1, .inl l1), (2, .inl l2), (3, .inl l3)]) 4 (.inl s0))) (st' := [.inr (.inl (σ.2.2.1 41 0 l2.toNatClampNeg)), .inr (.inl (σ.2.2.1 33 0 l1.toNatClampNeg))]) (σ' := σ) (fun _ => rfl) hz ?_
      refine q_ex_br 2 (c := (lg_cmp (σ.2.2.1 33 0 l1.toNatClampNeg) (σ.2.2.1 41 0 l2.toNatClampNeg)) ≤ 0) (pc1 := 199) (pc2 := 195) (L' := (q_s1 (q_L [(0, .inr (.inr (some (24, 0)))), (1, .inl l1), (2, .inl l2), (3, .inl l3)]) 4 (.inl s0))) (st' := []) (σ' := σ) (fun _ => rfl) (fun hc => ?_) (fun hc => ?_)
      · rw [if_pos hc] at h
        exact q_ex_ll (M_holds_b199_e h) trivial
      · rw [if_neg hc] at h
        refine q_ex_go 2 (pc' := 200) (L' := (q_s1 (q_L [(0, .inr (.inr (some (24, 0)))), (1, .inl l1), (2, .inl l2), (3, .inl l3)]) 4 (.inl s0))) (st' := [.inl 1]) (σ' := σ) (fun _ => rfl) ?_
        exact q_ex_ll (M_holds_b200_e h) trivial
    · rw [if_neg hc] at h
      exact q_ex_ll (M_holds_b199_e h) trivial
  rw [if_neg hc] at h
  refine q_sw_c (fun (hc : (σ.2.1 39 0 l2.toNatClampNeg) = Int32.ofNat 6) => ?_) (fun (hc : ¬ (σ.2.1 39 0 l2.toNatClampNeg) = Int32.ofNat 6) => ?_)
  · rw [if_pos hc] at h
    refine q_by h (fun hz h => ?_)
    refine q_ex_gb 4 (pc' := 207) (L' := (q_s1 (q_L [(0, .inr (.inr (some (24, 0)))), (1, .inl l1), (2, .inl l2), (3, .inl l3)]) 4 (.inl s0))) (st' := [.inl (σ.2.1 32 0 l1.toNatClampNeg)]) (σ' := σ) (fun _ => rfl) hz ?_
    refine q_ex_br 1 (c := (σ.2.1 32 0 l1.toNatClampNeg) = 0) (pc1 := 210) (pc2 := 246) (L' := (q_s1 (q_L [(0, .inr (.inr (some (24, 0)))), (1, .inl l1), (2, .inl l2), (3, .inl l3)]) 4 (.inl s0))) (st' := []) (σ' := σ) (fun _ => rfl) (fun hc => ?_) (fun hc => ?_)
    · rw [if_pos hc] at h
      refine q_by h (fun hz h => ?_)
      refine q_ex_gb 4 (pc' := 216) (L' := (q_s1 (q_L [(0, .inr (.inr (some (24, 0)))), (1, .inl l1), (2, .inl l2), (3, .inl l3)]) 4 (.inl s0))) (st' := [.inr (.inl (σ.2.2.1 33 0 l1.toNatClampNeg))]) (σ' := σ) (fun _ => rfl) hz ?_
      refine q_by h (fun hz h => ?_)
      refine q_ex_gb 4 (pc' := 222) (L' := (q_s1 (q_L [(0, .inr (.inr (some (24, 0)))), (1, .inl l1), (2, .inl l2), (3, .inl l3)]) 4 (.inl s0))) (st' := [.inr (.inl (σ.2.2.1 40 0 l2.toNatClampNeg)), .inr (.inl (σ.2.2.1 33 0 l1.toNatClampNeg))]) (σ' := σ) (fun _ => rfl) hz ?_
      refine q_ex_br 2 (c := (lg_cmp (σ.2.2.1 33 0 l1.toNatClampNeg) (σ.2.2.1 40 0 l2.toNatClampNeg)) < 0) (pc1 := 246) (pc2 := 226) (L' := (q_s1 (q_L [(0, .inr (.inr (some (24, 0)))), (1, .inl l1), (2, .inl l2), (3, .inl l3)]) 4 (.inl s0))) (st' := []) (σ' := σ) (fun _ => rfl) (fun hc => ?_) (fun hc => ?_)
      · rw [if_pos hc] at h
        exact q_ex_ll (M_holds_b246_e h) trivial
      · rw [if_neg hc] at h
        refine q_by h (fun hz h => ?_)
        refine q_ex_gb 4 (pc' := 232) (L' := (q_s1 (q_L [(0, .inr (.inr (some (24, 0)))), (1, .inl l1), (2, .inl l2), (3, .inl l3)]) 4 (.inl s0))) (st' := [.inr (.inl (σ.2.2.1 33 0 l1.toNatClampNeg))]) (σ' := σ) (fun _ => rfl) hz ?_
        refine q_by h (fun hz h => ?_)
        refine q_ex_gb 4 (pc' := 238) (L' := (q_s1 (q_L [(0, .inr (.inr (some (24, 0)))), (1, .inl l1), (2, .inl l2), (3, .inl l3)]) 4 (.inl s0))) (st' := [.inr (.inl (σ.2.2.1 41 0 l2.toNatClampNeg)), .inr (.inl (σ.2.2.1 33 0 l1.toNatClampNeg))]) (σ' := σ) (fun _ => rfl) hz ?_
        refine q_ex_br 2 (c := 0 < (lg_cmp (σ.2.2.1 33 0 l1.toNatClampNeg) (σ.2.2.1 41 0 l2.toNatClampNeg))) (pc1 := 246) (pc2 := 242) (L' := (q_s1 (q_L [(0, .inr (.inr (some (24, 0)))), (1, .inl l1), (2, .inl l2), (3, .inl l3)]) 4 (.inl s0))) (st' := []) (σ' := σ) (fun _ => rfl) (fun hc => ?_) (fun hc => ?_)
        · rw [if_pos hc] at h
          exact q_ex_ll (M_holds_b246_e h) trivial
        · rw [if_neg hc] at h
          refine q_ex_go 2 (pc' := 247) (L' := (q_s1 (q_L [(0, .inr (.inr (some (24, 0)))), (1, .inl l1), (2, .inl l2), (3, .inl l3)]) 4 (.inl s0))) (st' := [.inl 1]) (σ' := σ) (fun _ => rfl) ?_
          exact q_ex_ll (M_holds_b247_e h) trivial
    · rw [if_neg hc] at h
      exact q_ex_ll (M_holds_b246_e h) trivial
  rw [if_neg hc] at h
  refine q_sw_c (fun (hc : (σ.2.1 39 0 l2.toNatClampNeg) = Int32.ofNat 7) => ?_) (fun (hc : ¬ (σ.2.1 39 0 l2.toNatClampNeg) = Int32.ofNat 7) => ?_)
  · rw [if_pos hc] at h
    refine q_by h (fun hz h => ?_)
    refine q_ex_gb 11 (pc' := 261) (L' := (q_s1 (q_L [(0, .inr (.inr (some (24, 0)))), (1, .inl l1), (2, .inl l2), (3, .inl l3)]) 4 (.inl s0))) (st' := [.inr (.inl (σ.2.2.1 40 0 l2.toNatClampNeg)), .inl ((4 * l3) + 4), .inl l1, .inr (.inr (some (24, 0)))]) (σ' := σ) (fun _ => rfl) hz ?_
    obtain ⟨q1, hq1, h⟩ := Option.bind_eq_some_iff.mp h
    refine q_ex_ca 3 (k1 := 82) (vs := [.inr (.inr (some (24, 0))), .inl l1, .inl (((4 * l3) + 4) + ((σ.2.2.1 40 0 l2.toNatClampNeg).toInt32))]) (pc' := 266) (L' := (q_s1 (q_L [(0, .inr (.inr (some (24, 0)))), (1, .inl l1), (2, .inl l2), (3, .inl l3)]) 4 (.inl s0))) (rest := []) (σ' := σ) (fun _ => rfl) (q_ex_dd (M_bound_e hq1) (Nat.le_of_ble_eq_true rfl)) rfl ?_
    refine q_by h (fun hz h => ?_)
    cases h
    exact ⟨1, if_pos (e := (none : Option Res)) hz⟩
  rw [if_neg hc] at h
  refine q_sw_c (fun (hc : (σ.2.1 39 0 l2.toNatClampNeg) = Int32.ofNat 8) => ?_) (fun (hc : ¬ (σ.2.1 39 0 l2.toNatClampNeg) = Int32.ofNat 8) => ?_)
  · rw [if_pos hc] at h
    refine q_by h (fun hz h => ?_)
    refine q_ex_gb 4 (pc' := 273) (L' := (q_s1 (q_L [(0, .inr (.inr (some (24, 0)))), (1, .inl l1), (2, .inl l2), (3, .inl l3)]) 4 (.inl s0))) (st' := [.inl (σ.2.1 32 0 l1.toNatClampNeg)]) (σ' := σ) (fun _ => rfl) hz ?_
    refine q_ex_br 2 (c := (σ.2.1 32 0 l1.toNatClampNeg) = 2) (pc1 := 277) (pc2 := 321) (L' := (q_s1 (q_L [(0, .inr (.inr (some (24, 0)))), (1, .inl l1), (2, .inl l2), (3, .inl l3)]) 4 (.inl s0))) (st' := []) (σ' := σ) (fun _ => rfl) (fun hc => ?_) (fun hc => ?_)
    · rw [if_pos hc] at h
      refine q_by h (fun hz h => ?_)
      refine q_ex_gb 4 (pc' := 283) (L' := (q_s1 (q_L [(0, .inr (.inr (some (24, 0)))), (1, .inl l1), (2, .inl l2), (3, .inl l3)]) 4 (.inl s0))) (st' := [.inr (.inl (σ.2.2.1 40 0 l2.toNatClampNeg))]) (σ' := σ) (fun _ => rfl) hz ?_
      refine q_ex_br 4 (c := 0 ≤ (lg_cmp (σ.2.2.1 40 0 l2.toNatClampNeg) l3.toInt64)) (pc1 := 321) (pc2 := 289) (L' := (q_s1 (q_L [(0, .inr (.inr (some (24, 0)))), (1, .inl l1), (2, .inl l2), (3, .inl l3)]) 4 (.inl s0))) (st' := []) (σ' := σ) (fun _ => rfl) (fun hc => ?_) (fun hc => ?_)
      · rw [if_pos hc] at h
        exact q_ex_ll (M_holds_b321_e h) trivial
      · rw [if_neg hc] at h
        refine q_by h (fun hz h => ?_)
        refine q_ex_gb 4 (pc' := 295) (L' := (q_s1 (q_L [(0, .inr (.inr (some (24, 0)))), (1, .inl l1), (2, .inl l2), (3, .inl l3)]) 4 (.inl s0))) (st' := [.inr (.inl (σ.2.2.1 33 0 l1.toNatClampNeg))]) (σ' := σ) (fun _ => rfl) hz ?_
        refine q_by h (fun hz h => ?_)
        refine q_ex_gb 8 (pc' := 309) (L' := (q_s1 (q_L [(0, .inr (.inr (some (24, 0)))), (1, .inl l1), (2, .inl l2), (3, .inl l3)]) 4 (.inl s0))) (st' := [.inr (.inl (σ.2.2.1 40 0 l2.toNatClampNeg)), .inr (.inr (some (54, 0))), .inr (.inr (some (25, 0))), .inr (.inl (σ.2.2.1 33 0 l1.toNatClampNeg))]) (σ' := σ) (fun _ => rfl) hz ?_
        refine q_by h (fun hz h => ?_)
        refine q_ex_gb 2 (pc' := 311) (L' := (q_s1 (q_L [(0, .inr (.inr (some (24, 0)))), (1, .inl l1), (2, .inl l2), (3, .inl l3)]) 4 (.inl s0))) (st' := [.inl (σ.2.1 54 0 ((σ.2.2.1 40 0 l2.toNatClampNeg).toInt32).toNatClampNeg), .inr (.inr (some (25, 0))), .inr (.inl (σ.2.2.1 33 0 l1.toNatClampNeg))]) (σ' := σ) (fun _ => rfl) hz ?_
        refine q_by h (fun hz h => ?_)
        refine q_ex_gb 1 (pc' := 312) (L' := (q_s1 (q_L [(0, .inr (.inr (some (24, 0)))), (1, .inl l1), (2, .inl l2), (3, .inl l3)]) 4 (.inl s0))) (st' := [.inl (σ.2.1 25 0 (σ.2.1 54 0 ((σ.2.2.1 40 0 l2.toNatClampNeg).toInt32).toNatClampNeg).toNatClampNeg), .inr (.inl (σ.2.2.1 33 0 l1.toNatClampNeg))]) (σ' := σ) (fun _ => rfl) hz ?_
        refine q_ex_br 3 (c := (lg_cmp (σ.2.2.1 33 0 l1.toNatClampNeg) ((σ.2.1 25 0 (σ.2.1 54 0 ((σ.2.2.1 40 0 l2.toNatClampNeg).toInt32).toNatClampNeg).toNatClampNeg).toInt64)) = 0) (pc1 := 317) (pc2 := 321) (L' := (q_s1 (q_L [(0, .inr (.inr (some (24, 0)))), (1, .inl l1), (2, .inl l2), (3, .inl l3)]) 4 (.inl s0))) (st' := []) (σ' := σ) (fun _ => rfl) (fun hc => ?_) (fun hc => ?_)
        · rw [if_pos hc] at h
          refine q_ex_go 2 (pc' := 322) (L' := (q_s1 (q_L [(0, .inr (.inr (some (24, 0)))), (1, .inl l1), (2, .inl l2), (3, .inl l3)]) 4 (.inl s0))) (st' := [.inl 1]) (σ' := σ) (fun _ => rfl) ?_
          exact q_ex_ll (M_holds_b322_e h) trivial
        · rw [if_neg hc] at h
          exact q_ex_ll (M_holds_b321_e h) trivial
    · rw [if_neg hc] at h
      exact q_ex_ll (M_holds_b321_e h) trivial
  rw [if_neg hc] at h
  refine q_sw_d ?_
  refine q_ex_br 2 (c := s0 = 0) (pc1 := 368) (pc2 := 328) (L' := (q_s1 (q_L [(0, .inr (.inr (some (24, 0)))), (1, .inl l1), (2, .inl l2), (3, .inl l3)]) 4 (.inl s0))) (st' := []) (σ' := σ) (fun _ => rfl) (fun hc => ?_) (fun hc => ?_)
  · rw [if_pos hc] at h
    exact q_ex_ll (M_holds_b368_e h) trivial
  · rw [if_neg hc] at h
    refine q_by h (fun hz h => ?_)
    refine q_ex_gb 4 (pc' := 334) (L' := (q_s1 (q_L [(0, .inr (.inr (some (24, 0)))), (1, .inl l1), (2, .inl l2), (3, .inl l3)]) 4 (.inl s0))) (st' := [.inr (.inl (σ.2.2.1 33 0 l1.toNatClampNeg))]) (σ' := σ) (fun _ => rfl) hz ?_
    obtain ⟨q2, hq2, h⟩ := Option.bind_eq_some_iff.mp h
    refine q_ex_ca 2 (k1 := 122) (vs := [.inr (.inl (σ.2.2.1 33 0 l1.toNatClampNeg)), .inr (.inl 63)]) (pc' := 340) (L' := (q_s1 (q_L [(0, .inr (.inr (some (24, 0)))), (1, .inl l1), (2, .inl l2), (3, .inl l3)]) 4 (.inl s0))) (rest := []) (σ' := σ) (fun _ => rfl) (q_ex_dd (M_within_e hq2) (Nat.le_of_ble_eq_true rfl)) rfl ?_
    refine q_ex_br 1 (c := q2.1 = 0) (pc1 := 368) (pc2 := 343) (L' := (q_s1 (q_L [(0, .inr (.inr (some (24, 0)))), (1, .inl l1), (2, .inl l2), (3, .inl l3)]) 4 (.inl s0))) (st' := []) (σ' := q2.2) (fun _ => rfl) (fun hc => ?_) (fun hc => ?_)
    · rw [if_pos hc] at h
      exact q_ex_ll (M_holds_b368_e h) trivial
    · rw [if_neg hc] at h
      refine q_by h (fun hz h => ?_)
      refine q_ex_gb 4 (pc' := 349) (L' := (q_s1 (q_L [(0, .inr (.inr (some (24, 0)))), (1, .inl l1), (2, .inl l2), (3, .inl l3)]) 4 (.inl s0))) (st' := [.inr (.inl (q2.2.2.2.1 41 0 l2.toNatClampNeg))]) (σ' := q2.2) (fun _ => rfl) hz ?_
      refine q_by h (fun hz h => ?_)
      refine q_ex_gb 4 (pc' := 355) (L' := (q_s1 (q_L [(0, .inr (.inr (some (24, 0)))), (1, .inl l1), (2, .inl l2), (3, .inl l3)]) 4 (.inl s0))) (st' := [.inr (.inl (q2.2.2.2.1 33 0 l1.toNatClampNeg)), .inr (.inl (q2.2.2.2.1 41 0 l2.toNatClampNeg))]) (σ' := q2.2) (fun _ => rfl) hz ?_
      refine q_ex_br 7 (c := (lg_cmp (((q2.2.2.2.1 41 0 l2.toNatClampNeg) >>> (((q2.2.2.2.1 33 0 l1.toNatClampNeg).toInt32).toInt64 &&& 63)) &&& 1) 1) = 0) (pc1 := 364) (pc2 := 368) (L' := (q_s1 (q_L [(0, .inr (.inr (some (24, 0)))), (1, .inl l1), (2, .inl l2), (3, .inl l3)]) 4 (.inl s0))) (st' := []) (σ' := q2.2) (fun _ => rfl) (fun hc => ?_) (fun hc => ?_)
      · rw [if_pos hc] at h
        refine q_ex_go 2 (pc' := 369) (L' := (q_s1 (q_L [(0, .inr (.inr (some (24, 0)))), (1, .inl l1), (2, .inl l2), (3, .inl l3)]) 4 (.inl s0))) (st' := [.inl 1]) (σ' := q2.2) (fun _ => rfl) ?_
        exact q_ex_ll (M_holds_b369_e h) trivial
      · rw [if_neg hc] at h
        exact q_ex_ll (M_holds_b368_e h) trivial
theorem M_holds_b0_e {n : Nat} {r0 : (Int32) × J} {l1 : Int32} {l2 : Int32} {l3 : Int32} {σ : J} (h : M_holds_b0 n l1 l2 l3 σ = some r0) : q_ex q_pr n 1 96 0 (q_L [(0, .inr (.inr (some (24, 0)))), (1, .inl l1), (2, .inl l2), (3, .inl l3)]) [] σ (M_holds_r r0) := by
  unfold M_holds_b0 at h
  refine q_by h (fun hz h => ?_)
  refine q_ex_gb 4 (pc' := 6) (L' := (q_L [(0, .inr (.inr (some (24, 0)))), (1, .inl l1), (2, .inl l2), (3, .inl l3)])) (st' := [.inl (σ.2.1 32 0 l1.toNatClampNeg)]) (σ' := σ) (fun _ => rfl) hz ?_
  refine q_by h (fun hz h => ?_)
  refine q_ex_gb 5 (pc' := 13) (L' := (q_L [(0, .inr (.inr (some (24, 0)))), (1, .inl l1), (2, .inl l2), (3, .inl l3)])) (st' := [.inr (.inl (σ.2.2.1 40 0 l2.toNatClampNeg)), .inr (.inl ((σ.2.1 32 0 l1.toNatClampNeg).toInt64))]) (σ' := σ) (fun _ => rfl) hz ?_
  refine q_ex_br 2 (c := (lg_cmp ((σ.2.1 32 0 l1.toNatClampNeg).toInt64) (σ.2.2.1 40 0 l2.toNatClampNeg)) = 0) (pc1 := 17) (pc2 := 21) (L' := (q_L [(0, .inr (.inr (some (24, 0)))), (1, .inl l1), (2, .inl l2), (3, .inl l3)])) (st' := []) (σ' := σ) (fun _ => rfl) (fun hc => ?_) (fun hc => ?_)
  · rw [if_pos hc] at h
    refine q_ex_go 2 (pc' := 22) (L' := (q_L [(0, .inr (.inr (some (24, 0)))), (1, .inl l1), (2, .inl l2), (3, .inl l3)])) (st' := [.inl 1]) (σ' := σ) (fun _ => rfl) ?_
    exact q_ex_ll (M_holds_b22_e h) ⟨rfl, rfl, rfl, rfl, trivial⟩
  · rw [if_neg hc] at h
    refine q_ex_go 1 (pc' := 22) (L' := (q_L [(0, .inr (.inr (some (24, 0)))), (1, .inl l1), (2, .inl l2), (3, .inl l3)])) (st' := [.inl 0]) (σ' := σ) (fun _ => rfl) ?_
    exact q_ex_ll (M_holds_b22_e h) ⟨rfl, rfl, rfl, rfl, trivial⟩
theorem M_holds_e {n : Nat} {r0 : (Int32) × J} {x1 : Int32} {x2 : Int32} {x3 : Int32} {σ : J} (h : M_holds n x1 x2 x3 σ = some r0) : q_ex q_pr n 1 96 0 (q_args 0 [.inr (.inr (some (24, 0))), .inl x1, .inl x2, .inl x3]) [] σ (M_holds_r r0) := q_ex_ll (M_holds_b0_e h) ⟨rfl, rfl, rfl, rfl, trivial⟩
def M_fits_r : (Int32) × J → Res := fun q => (.inl (some (.inl q.1)), q.2)
-- 91: M_fits
def M_fits_b119 (n : Nat) (f : Nat) (l4 : Int32) (σ : J) : Option ((Int32) × J) := if l4 &&& 1 = l4 then some (l4, σ) else none
def M_fits_b78 (n : Nat) (k78 : Int32 → Int32 → Int32 → Int32 → Int32 → J → Option ((Int32) × J)) (f : Nat) (l1 : Int32) (l2 : Int32) (l3 : Int32) (l4 : Int32) (l5 : Int32) (σ : J) : Option ((Int32) × J) := if q_in l2 18 = true then if (σ.2.1 38 0 l2.toNatClampNeg) ≤ l5 then M_fits_b119 n f l4 σ else if l4 = 0 then M_fits_b119 n f l4 σ else (M_holds n ((4 * l1) + l5) ((4 * l2) + l5) l3 σ).bind fun q3 => k78 l1 l2 l3 q3.1 (l5 + 1) q3.2 else none
def M_fits_L78 (n : Nat) : Nat → Int32 → Int32 → Int32 → Int32 → Int32 → J → Option ((Int32) × J)
  | 0 => fun _ _ _ _ _ _ => none
  | f + 1 => fun l1 l2 l3 l4 l5 σ => M_fits_b78 n (M_fits_L78 n f) f l1 l2 l3 l4 l5 σ
def M_fits_b73 (n : Nat) (f : Nat) (l1 : Int32) (l2 : Int32) (l3 : Int32) (s0 : Int32) (σ : J) : Option ((Int32) × J) := M_fits_L78 n f l1 l2 l3 s0 0 σ
def M_fits_b5 (n : Nat) (k5 : Int32 → Int32 → Int32 → Int32 → J → Option ((Int32) × J)) (f : Nat) (l1 : Int32) (l2 : Int32) (l3 : Int32) (l4 : Int32) (σ : J) : Option ((Int32) × J) := if ((4 * l3) + 4) ≤ l4 then if q_in l1 20 = true then if q_in l2 18 = true then if (σ.2.1 26 0 l1.toNatClampNeg) = (σ.2.1 38 0 l2.toNatClampNeg) then M_fits_b73 n f l1 l2 l3 1 σ else M_fits_b73 n f l1 l2 l3 0 σ else none else none else if q_in l4 16 = true then if q_in (l4 + 4) 16 = true then q_bs (q_sA σ 52 0 (upd (σ.2.1 52 0) ((l4 + 4).toNatClampNeg) (σ.2.1 52 0 l4.toNatClampNeg))) fun σ1 => if q_in l4 16 = true then if q_in (l4 + 4) 16 = true then q_bs (q_sL σ1 53 0 (vp_updL (σ1.2.2.1 53 0) ((l4 + 4).toNatClampNeg) (σ1.2.2.1 53 0 l4.toNatClampNeg))) fun σ2 => k5 l1 l2 l3 (l4 + 1) σ2 else none else none else none else none
def M_fits_L5 (n : Nat) : Nat → Int32 → Int32 → Int32 → Int32 → J → Option ((Int32) × J)
  | 0 => fun _ _ _ _ _ => none
  | f + 1 => fun l1 l2 l3 l4 σ => M_fits_b5 n (M_fits_L5 n f) f l1 l2 l3 l4 σ
def M_fits_b0 (n : Nat) (f : Nat) (l1 : Int32) (l2 : Int32) (l3 : Int32) (σ : J) : Option ((Int32) × J) := M_fits_L5 n f l1 l2 l3 (4 * l3) σ
def M_fits (n : Nat) (f : Nat) (x1 : Int32) (x2 : Int32) (x3 : Int32) (σ : J) : Option ((Int32) × J) := M_fits_b0 n f x1 x2 x3 σ
theorem M_fits_b119_e {n : Nat} {r0 : (Int32) × J} {f : Nat} {l4 : Int32} {σ : J} (h : M_fits_b119 n f l4 σ = some r0) : q_ex q_pr n 2 91 119 (q_L [(4, .inl l4)]) [] σ (M_fits_r r0) := by
  unfold M_fits_b119 at h
  refine q_ex_go 1 (pc' := 121) (L' := (q_L [(4, .inl l4)])) (st' := [.inl l4]) (σ' := σ) (fun _ => rfl) ?_
  refine q_by h (fun hz h => ?_)
  cases h
  exact ⟨1, if_pos (e := (none : Option Res)) hz⟩
theorem M_fits_b78_e {n : Nat} {r0 : (Int32) × J} {k78 : Int32 → Int32 → Int32 → Int32 → Int32 → J → Option ((Int32) × J)} {f : Nat} {l1 : Int32} {l2 : Int32} {l3 : Int32} {l4 : Int32} {l5 : Int32} {σ : J} (hk78 : ∀ {l1 : Int32} {l2 : Int32} {l3 : Int32} {l4 : Int32} {l5 : Int32} {σ : J}, k78 l1 l2 l3 l4 l5 σ = some r0 → q_ex q_pr n 2 91 78 (q_L [(0, .inr (.inr (some (24, 0)))), (1, .inl l1), (2, .inl l2), (3, .inl l3), (4, .inl l4), (5, .inl l5)]) [] σ (M_fits_r r0)) (h : M_fits_b78 n k78 f l1 l2 l3 l4 l5 σ = some r0) : q_ex q_pr n 2 91 78 (q_L [(0, .inr (.inr (some (24, 0)))), (1, .inl l1), (2, .inl l2), (3, .inl l3), (4, .inl l4), (5, .inl l5)]) [] σ (M_fits_r r0) := by
  unfold M_fits_b78 at h
  refine q_by h (fun hz h => ?_)
  refine q_ex_gb 5 (pc' := 86) (L' := (q_L [(0, .inr (.inr (some (24, 0)))), (1, .inl l1), (2, .inl l2), (3, .inl l3), (4, .inl l4), (5, .inl l5)])) (st' := [.inl (σ.2.1 38 0 l2.toNatClampNeg), .inl l5]) (σ' := σ) (fun _ => rfl) hz ?_
  refine q_ex_br 1 (c := (σ.2.1 38 0 l2.toNatClampNeg) ≤ l5) (pc1 := 119) (pc2 := 89) (L' := (q_L [(0, .inr (.inr (some (24, 0)))), (1, .inl l1), (2, .inl l2), (3, .inl l3), (4, .inl l4), (5, .inl l5)])) (st' := []) (σ' := σ) (fun _ => rfl) (fun hc => ?_) (fun hc => ?_)
  · rw [if_pos hc] at h
    exact q_ex_ll (M_fits_b119_e h) ⟨rfl, trivial⟩
  · rw [if_neg hc] at h
    refine q_ex_br 2 (c := l4 = 0) (pc1 := 119) (pc2 := 94) (L' := (q_L [(0, .inr (.inr (some (24, 0)))), (1, .inl l1), (2, .inl l2), (3, .inl l3), (4, .inl l4), (5, .inl l5)])) (st' := []) (σ' := σ) (fun _ => rfl) (fun hc => ?_) (fun hc => ?_)
    · rw [if_pos hc] at h
      exact q_ex_ll (M_fits_b119_e h) ⟨rfl, trivial⟩
    · rw [if_neg hc] at h
      obtain ⟨q3, hq3, h⟩ := Option.bind_eq_some_iff.mp h
      refine q_ex_ca 13 (k1 := 96) (vs := [.inr (.inr (some (24, 0))), .inl ((4 * l1) + l5), .inl ((4 * l2) + l5), .inl l3]) (pc' := 111) (L' := (q_L [(0, .inr (.inr (some (24, 0)))), (1, .inl l1), (2, .inl l2), (3, .inl l3), (4, .inl l4), (5, .inl l5)])) (rest := []) (σ' := σ) (fun _ => rfl) (q_ex_dd (M_holds_e hq3) (Nat.le_of_ble_eq_true rfl)) rfl ?_
      refine q_ex_go 3 (pc' := 78) (L' := (q_s1 (q_s1 (q_L [(0, .inr (.inr (some (24, 0)))), (1, .inl l1), (2, .inl l2), (3, .inl l3), (4, .inl l4), (5, .inl l5)]) 4 (.inl q3.1)) 5 (.inl (l5 + 1)))) (st' := []) (σ' := q3.2) (fun _ => rfl) ?_
      exact q_ex_ll (hk78 h) ⟨rfl, rfl, rfl, rfl, rfl, rfl, trivial⟩
theorem M_fits_L78_e {n : Nat} {r0 : (Int32) × J} (f : Nat) : ∀ {l1 : Int32} {l2 : Int32} {l3 : Int32} {l4 : Int32} {l5 : Int32} {σ : J}, M_fits_L78 n f l1 l2 l3 l4 l5 σ = some r0 → q_ex q_pr n 2 91 78 (q_L [(0, .inr (.inr (some (24, 0)))), (1, .inl l1), (2, .inl l2), (3, .inl l3), (4, .inl l4), (5, .inl l5)]) [] σ (M_fits_r r0) := by
  induction f with
  | zero => intro l1 l2 l3 l4 l5 σ h; cases h
  | succ f ih =>
    intro l1 l2 l3 l4 l5 σ h
    exact M_fits_b78_e (f := f)  (fun h => ih h) h
theorem M_fits_b73_e {n : Nat} {r0 : (Int32) × J} {f : Nat} {l1 : Int32} {l2 : Int32} {l3 : Int32} {s0 : Int32} {σ : J} (h : M_fits_b73 n f l1 l2 l3 s0 σ = some r0) : q_ex q_pr n 2 91 73 (q_L [(0, .inr (.inr (some (24, 0)))), (1, .inl l1), (2, .inl l2), (3, .inl l3)]) [.inl s0] σ (M_fits_r r0) := by
  unfold M_fits_b73 at h
  refine q_ex_go 3 (pc' := 78) (L' := (q_s1 (q_s1 (q_L [(0, .inr (.inr (some (24, 0)))), (1, .inl l1), (2, .inl l2), (3, .inl l3)]) 4 (.inl s0)) 5 (.inl 0))) (st' := []) (σ' := σ) (fun _ => rfl) ?_
  exact q_ex_ll (M_fits_L78_e f h) ⟨rfl, rfl, rfl, rfl, rfl, rfl, trivial⟩
theorem M_fits_b5_e {n : Nat} {r0 : (Int32) × J} {k5 : Int32 → Int32 → Int32 → Int32 → J → Option ((Int32) × J)} {f : Nat} {l1 : Int32} {l2 : Int32} {l3 : Int32} {l4 : Int32} {σ : J} (hk5 : ∀ {l1 : Int32} {l2 : Int32} {l3 : Int32} {l4 : Int32} {σ : J}, k5 l1 l2 l3 l4 σ = some r0 → q_ex q_pr n 2 91 5 (q_L [(0, .inr (.inr (some (24, 0)))), (1, .inl l1), (2, .inl l2), (3, .inl l3), (4, .inl l4)]) [] σ (M_fits_r r0)) (h : M_fits_b5 n k5 f l1 l2 l3 l4 σ = some r0) : q_ex q_pr n 2 91 5 (q_L [(0, .inr (.inr (some (24, 0)))), (1, .inl l1), (2, .inl l2), (3, .inl l3), (4, .inl l4)]) [] σ (M_fits_r r0) := by
  unfold M_fits_b5 at h
  refine q_ex_br 7 (c := ((4 * l3) + 4) ≤ l4) (pc1 := 53) (pc2 := 15) (L' := (q_L [(0, .inr (.inr (some (24, 0)))), (1, .inl l1), (2, .inl l2), (3, .inl l3), (4, .inl l4)])) (st' := []) (σ' := σ) (fun _ => rfl) (fun hc => ?_) (fun hc => ?_)
  · rw [if_pos hc] at h
    refine q_by h (fun hz h => ?_)
    refine q_ex_gb 4 (pc' := 59) (L' := (q_L [(0, .inr (.inr (some (24, 0)))), (1, .inl l1), (2, .inl l2), (3, .inl l3), (4, .inl l4)])) (st' := [.inl (σ.2.1 26 0 l1.toNatClampNeg)]) (σ' := σ) (fun _ => rfl) hz ?_
    refine q_by h (fun hz h => ?_)
    refine q_ex_gb 4 (pc' := 65) (L' := (q_L [(0, .inr (.inr (some (24, 0)))), (1, .inl l1), (2, .inl l2), (3, .inl l3), (4, .inl l4)])) (st' := [.inl (σ.2.1 38 0 l2.toNatClampNeg), .inl (σ.2.1 26 0 l1.toNatClampNeg)]) (σ' := σ) (fun _ => rfl) hz ?_
    refine q_ex_br 1 (c := (σ.2.1 26 0 l1.toNatClampNeg) = (σ.2.1 38 0 l2.toNatClampNeg)) (pc1 := 68) (pc2 := 72) (L' := (q_L [(0, .inr (.inr (some (24, 0)))), (1, .inl l1), (2, .inl l2), (3, .inl l3), (4, .inl l4)])) (st' := []) (σ' := σ) (fun _ => rfl) (fun hc => ?_) (fun hc => ?_)
    · rw [if_pos hc] at h
      refine q_ex_go 2 (pc' := 73) (L' := (q_L [(0, .inr (.inr (some (24, 0)))), (1, .inl l1), (2, .inl l2), (3, .inl l3), (4, .inl l4)])) (st' := [.inl 1]) (σ' := σ) (fun _ => rfl) ?_
      exact q_ex_ll (M_fits_b73_e h) ⟨rfl, rfl, rfl, rfl, trivial⟩
    · rw [if_neg hc] at h
      refine q_ex_go 1 (pc' := 73) (L' := (q_L [(0, .inr (.inr (some (24, 0)))), (1, .inl l1), (2, .inl l2), (3, .inl l3), (4, .inl l4)])) (st' := [.inl 0]) (σ' := σ) (fun _ => rfl) ?_
      exact q_ex_ll (M_fits_b73_e h) ⟨rfl, rfl, rfl, rfl, trivial⟩
  · rw [if_neg hc] at h
    refine q_by h (fun hz h => ?_)
    refine q_ex_gb 9 (pc' := 30) (L' := (q_L [(0, .inr (.inr (some (24, 0)))), (1, .inl l1), (2, .inl l2), (3, .inl l3), (4, .inl l4)])) (st' := [.inl (σ.2.1 52 0 l4.toNatClampNeg), .inl (l4 + 4), .inr (.inr (some (52, 0)))]) (σ' := σ) (fun _ => rfl) hz ?_
    refine q_by h (fun hz h => ?_)
    refine q_ex_gb 1 (pc' := 31) (L' := (q_L [(0, .inr (.inr (some (24, 0)))), (1, .inl l1), (2, .inl l2), (3, .inl l3), (4, .inl l4)])) (st' := []) (σ' := (q_sA σ 52 0 (upd (σ.2.1 52 0) ((l4 + 4).toNatClampNeg) (σ.2.1 52 0 l4.toNatClampNeg)))) (fun _ => rfl) hz ?_
    refine q_nm (G := fun τ => q_ex q_pr n _ 91 31 (q_L [(0, .inr (.inr (some (24, 0)))), (1, .inl l1), (2, .inl l2), (3, .inl l3), (4, .inl l4)]) [] τ _) h (fun σ1 h => ?_)
    refine q_by h (fun hz h => ?_)
    refine q_ex_gb 9 (pc' := 46) (L' := (q_L [(0, .inr (.inr (some (24, 0)))), (1, .inl l1), (2, .inl l2), (3, .inl l3), (4, .inl l4)])) (st' := [.inr (.inl (σ1.2.2.1 53 0 l4.toNatClampNeg)), .inl (l4 + 4), .inr (.inr (some (53, 0)))]) (σ' := σ1) (fun _ => rfl) hz ?_
    refine q_by h (fun hz h => ?_)
    refine q_ex_gb 1 (pc' := 47) (L' := (q_L [(0, .inr (.inr (some (24, 0)))), (1, .inl l1), (2, .inl l2), (3, .inl l3), (4, .inl l4)])) (st' := []) (σ' := (q_sL σ1 53 0 (vp_updL (σ1.2.2.1 53 0) ((l4 + 4).toNatClampNeg) (σ1.2.2.1 53 0 l4.toNatClampNeg)))) (fun _ => rfl) hz ?_
    refine q_nm (G := fun τ => q_ex q_pr n _ 91 47 (q_L [(0, .inr (.inr (some (24, 0)))), (1, .inl l1), (2, .inl l2), (3, .inl l3), (4, .inl l4)]) [] τ _) h (fun σ2 h => ?_)
    refine q_ex_go 2 (pc' := 5) (L' := (q_s1 (q_L [(0, .inr (.inr (some (24, 0)))), (1, .inl l1), (2, .inl l2), (3, .inl l3), (4, .inl l4)]) 4 (.inl (l4 + 1)))) (st' := []) (σ' := σ2) (fun _ => rfl) ?_
    exact q_ex_ll (hk5 h) ⟨rfl, rfl, rfl, rfl, rfl, trivial⟩
theorem M_fits_L5_e {n : Nat} {r0 : (Int32) × J} (f : Nat) : ∀ {l1 : Int32} {l2 : Int32} {l3 : Int32} {l4 : Int32} {σ : J}, M_fits_L5 n f l1 l2 l3 l4 σ = some r0 → q_ex q_pr n 2 91 5 (q_L [(0, .inr (.inr (some (24, 0)))), (1, .inl l1), (2, .inl l2), (3, .inl l3), (4, .inl l4)]) [] σ (M_fits_r r0) := by
  induction f with
  | zero => intro l1 l2 l3 l4 σ h; cases h
  | succ f ih =>
    intro l1 l2 l3 l4 σ h
    exact M_fits_b5_e (f := f)  (fun h => ih h) h
theorem M_fits_b0_e {n : Nat} {r0 : (Int32) × J} {f : Nat} {l1 : Int32} {l2 : Int32} {l3 : Int32} {σ : J} (h : M_fits_b0 n f l1 l2 l3 σ = some r0) : q_ex q_pr n 2 91 0 (q_L [(0, .inr (.inr (some (24, 0)))), (1, .inl l1), (2, .inl l2), (3, .inl l3)]) [] σ (M_fits_r r0) := by
  unfold M_fits_b0 at h
  refine q_ex_go 4 (pc' := 5) (L' := (q_s1 (q_L [(0, .inr (.inr (some (24, 0)))), (1, .inl l1), (2, .inl l2), (3, .inl l3)]) 4 (.inl (4 * l3)))) (st' := []) (σ' := σ) (fun _ => rfl) ?_
  exact q_ex_ll (M_fits_L5_e f h) ⟨rfl, rfl, rfl, rfl, rfl, trivial⟩
theorem M_fits_e {n : Nat} {r0 : (Int32) × J} {f : Nat} {x1 : Int32} {x2 : Int32} {x3 : Int32} {σ : J} (h : M_fits n f x1 x2 x3 σ = some r0) : q_ex q_pr n 2 91 0 (q_args 0 [.inr (.inr (some (24, 0))), .inl x1, .inl x2, .inl x3]) [] σ (M_fits_r r0) := q_ex_ll (M_fits_b0_e h) ⟨rfl, rfl, rfl, rfl, trivial⟩
def M_next_r : (Int32) × J → Res := fun q => (.inl (some (.inl q.1)), q.2)
-- 102: M_next
def M_next_b84 (n : Nat) (k3 : Int32 → Int32 → Int32 → J → Option ((Int32) × J)) (f : Nat) (l1 : Int32) (l2 : Int32) (l4 : Int32) (σ : J) : Option ((Int32) × J) := k3 l1 l2 (l4 + 1) σ
def M_next_b49 (n : Nat) (k3 : Int32 → Int32 → Int32 → J → Option ((Int32) × J)) (f : Nat) (l1 : Int32) (l2 : Int32) (l4 : Int32) (s0 : Int32) (σ : J) : Option ((Int32) × J) := if s0 = 0 then M_next_b84 n k3 f l1 l2 l4 σ else (M_sees n l1 l4 σ).bind fun q1 => if q1.1 = 0 then M_next_b84 n k3 f l1 l2 l4 q1.2 else (M_fits n f l4 ((3 * l1) + l2) l2 q1.2).bind fun q2 => if q2.1 = 0 then M_next_b84 n k3 f l1 l2 l4 q2.2 else some (l4, q2.2)
def M_next_b44 (n : Nat) (k3 : Int32 → Int32 → Int32 → J → Option ((Int32) × J)) (f : Nat) (l1 : Int32) (l2 : Int32) (l4 : Int32) (σ : J) : Option ((Int32) × J) := M_next_b49 n k3 f l1 l2 l4 1 σ
def M_next_b48 (n : Nat) (k3 : Int32 → Int32 → Int32 → J → Option ((Int32) × J)) (f : Nat) (l1 : Int32) (l2 : Int32) (l4 : Int32) (σ : J) : Option ((Int32) × J) := M_next_b49 n k3 f l1 l2 l4 0 σ
def M_next_b28 (n : Nat) (k3 : Int32 → Int32 → Int32 → J → Option ((Int32) × J)) (f : Nat) (l1 : Int32) (l2 : Int32) (l4 : Int32) (σ : J) : Option ((Int32) × J) := if l2 < 2 then M_next_b44 n k3 f l1 l2 l4 σ else if q_in 1 3 = true then if (σ.2.1 54 0 (1 : Int32).toNatClampNeg) = l4 then M_next_b48 n k3 f l1 l2 l4 σ else M_next_b44 n k3 f l1 l2 l4 σ else none
def M_next_b3 (n : Nat) (k3 : Int32 → Int32 → Int32 → J → Option ((Int32) × J)) (f : Nat) (l1 : Int32) (l2 : Int32) (l4 : Int32) (σ : J) : Option ((Int32) × J) := if (σ.1 24 1 0) ≤ l4 then some (σ.1 24 1 0, σ) else if l2 < 1 then M_next_b28 n k3 f l1 l2 l4 σ else if q_in 0 3 = true then if (σ.2.1 54 0 (0 : Int32).toNatClampNeg) = l4 then M_next_b48 n k3 f l1 l2 l4 σ else M_next_b28 n k3 f l1 l2 l4 σ else none
def M_next_L3 (n : Nat) : Nat → Int32 → Int32 → Int32 → J → Option ((Int32) × J)
  | 0 => fun _ _ _ _ => none
  | f + 1 => fun l1 l2 l4 σ => M_next_b3 n (M_next_L3 n f) f l1 l2 l4 σ
def M_next_b0 (n : Nat) (f : Nat) (l1 : Int32) (l2 : Int32) (l3 : Int32) (σ : J) : Option ((Int32) × J) := M_next_L3 n f l1 l2 l3 σ
def M_next (n : Nat) (f : Nat) (x1 : Int32) (x2 : Int32) (x3 : Int32) (σ : J) : Option ((Int32) × J) := M_next_b0 n f x1 x2 x3 σ
theorem M_next_b84_e {n : Nat} {r0 : (Int32) × J} {k3 : Int32 → Int32 → Int32 → J → Option ((Int32) × J)} {f : Nat} {l1 : Int32} {l2 : Int32} {l4 : Int32} {σ : J} (hk3 : ∀ {l1 : Int32} {l2 : Int32} {l4 : Int32} {σ : J}, k3 l1 l2 l4 σ = some r0 → q_ex q_pr n 3 102 3 (q_L [(0, .inr (.inr (some (24, 0)))), (1, .inl l1), (2, .inl l2), (4, .inl l4)]) [] σ (M_next_r r0)) (h : M_next_b84 n k3 f l1 l2 l4 σ = some r0) : q_ex q_pr n 3 102 84 (q_L [(0, .inr (.inr (some (24, 0)))), (1, .inl l1), (2, .inl l2), (4, .inl l4)]) [] σ (M_next_r r0) := by
  unfold M_next_b84 at h
  refine q_ex_go 2 (pc' := 3) (L' := (q_s1 (q_L [(0, .inr (.inr (some (24, 0)))), (1, .inl l1), (2, .inl l2), (4, .inl l4)]) 4 (.inl (l4 + 1)))) (st' := []) (σ' := σ) (fun _ => rfl) ?_
  exact q_ex_ll (hk3 h) ⟨rfl, rfl, rfl, rfl, trivial⟩
theorem M_next_b49_e {n : Nat} {r0 : (Int32) × J} {k3 : Int32 → Int32 → Int32 → J → Option ((Int32) × J)} {f : Nat} {l1 : Int32} {l2 : Int32} {l4 : Int32} {s0 : Int32} {σ : J} (hk3 : ∀ {l1 : Int32} {l2 : Int32} {l4 : Int32} {σ : J}, k3 l1 l2 l4 σ = some r0 → q_ex q_pr n 3 102 3 (q_L [(0, .inr (.inr (some (24, 0)))), (1, .inl l1), (2, .inl l2), (4, .inl l4)]) [] σ (M_next_r r0)) (h : M_next_b49 n k3 f l1 l2 l4 s0 σ = some r0) : q_ex q_pr n 3 102 49 (q_L [(0, .inr (.inr (some (24, 0)))), (1, .inl l1), (2, .inl l2), (4, .inl l4)]) [.inl s0] σ (M_next_r r0) := by
  unfold M_next_b49 at h
  refine q_ex_br 3 (c := s0 = 0) (pc1 := 84) (pc2 := 56) (L' := (q_s1 (q_L [(0, .inr (.inr (some (24, 0)))), (1, .inl l1), (2, .inl l2), (4, .inl l4)]) 5 (.inl s0))) (st' := []) (σ' := σ) (fun _ => rfl) (fun hc => ?_) (fun hc => ?_)
  · rw [if_pos hc] at h
    exact q_ex_ll (M_next_b84_e hk3 h) ⟨rfl, rfl, rfl, rfl, trivial⟩
  · rw [if_neg hc] at h
    obtain ⟨q1, hq1, h⟩ := Option.bind_eq_some_iff.mp h
    refine q_ex_ca 4 (k1 := 114) (vs := [.inr (.inr (some (24, 0))), .inl l1, .inl l4]) (pc' := 63) (L' := (q_s1 (q_L [(0, .inr (.inr (some (24, 0)))), (1, .inl l1), (2, .inl l2), (4, .inl l4)]) 5 (.inl s0))) (rest := []) (σ' := σ) (fun _ => rfl) (q_ex_dd (M_sees_e hq1) (Nat.le_of_ble_eq_true rfl)) rfl ?_
    refine q_ex_br 1 (c := q1.1 = 0) (pc1 := 84) (pc2 := 66) (L' := (q_s1 (q_L [(0, .inr (.inr (some (24, 0)))), (1, .inl l1), (2, .inl l2), (4, .inl l4)]) 5 (.inl s0))) (st' := []) (σ' := q1.2) (fun _ => rfl) (fun hc => ?_) (fun hc => ?_)
    · rw [if_pos hc] at h
      exact q_ex_ll (M_next_b84_e hk3 h) ⟨rfl, rfl, rfl, rfl, trivial⟩
    · rw [if_neg hc] at h
      obtain ⟨q2, hq2, h⟩ := Option.bind_eq_some_iff.mp h
      refine q_ex_ca 9 (k1 := 91) (vs := [.inr (.inr (some (24, 0))), .inl l4, .inl ((3 * l1) + l2), .inl l2]) (pc' := 78) (L' := (q_s1 (q_L [(0, .inr (.inr (some (24, 0)))), (1, .inl l1), (2, .inl l2), (4, .inl l4)]) 5 (.inl s0))) (rest := []) (σ' := q1.2) (fun _ => rfl) (q_ex_dd (M_fits_e hq2) (Nat.le_of_ble_eq_true rfl)) rfl ?_
      refine q_ex_br 1 (c := q2.1 = 0) (pc1 := 84) (pc2 := 81) (L' := (q_s1 (q_L [(0, .inr (.inr (some (24, 0)))), (1, .inl l1), (2, .inl l2), (4, .inl l4)]) 5 (.inl s0))) (st' := []) (σ' := q2.2) (fun _ => rfl) (fun hc => ?_) (fun hc => ?_)
      · rw [if_pos hc] at h
        exact q_ex_ll (M_next_b84_e hk3 h) ⟨rfl, rfl, rfl, rfl, trivial⟩
      · rw [if_neg hc] at h
        refine q_ex_go 1 (pc' := 83) (L' := (q_s1 (q_L [(0, .inr (.inr (some (24, 0)))), (1, .inl l1), (2, .inl l2), (4, .inl l4)]) 5 (.inl s0))) (st' := [.inl l4]) (σ' := q2.2) (fun _ => rfl) ?_
        cases h
        exact ⟨1, rfl⟩
theorem M_next_b44_e {n : Nat} {r0 : (Int32) × J} {k3 : Int32 → Int32 → Int32 → J → Option ((Int32) × J)} {f : Nat} {l1 : Int32} {l2 : Int32} {l4 : Int32} {σ : J} (hk3 : ∀ {l1 : Int32} {l2 : Int32} {l4 : Int32} {σ : J}, k3 l1 l2 l4 σ = some r0 → q_ex q_pr n 3 102 3 (q_L [(0, .inr (.inr (some (24, 0)))), (1, .inl l1), (2, .inl l2), (4, .inl l4)]) [] σ (M_next_r r0)) (h : M_next_b44 n k3 f l1 l2 l4 σ = some r0) : q_ex q_pr n 3 102 44 (q_L [(0, .inr (.inr (some (24, 0)))), (1, .inl l1), (2, .inl l2), (4, .inl l4)]) [] σ (M_next_r r0) := by
  unfold M_next_b44 at h
  refine q_ex_go 2 (pc' := 49) (L' := (q_L [(0, .inr (.inr (some (24, 0)))), (1, .inl l1), (2, .inl l2), (4, .inl l4)])) (st' := [.inl 1]) (σ' := σ) (fun _ => rfl) ?_
  exact q_ex_ll (M_next_b49_e hk3 h) ⟨rfl, rfl, rfl, rfl, trivial⟩
theorem M_next_b48_e {n : Nat} {r0 : (Int32) × J} {k3 : Int32 → Int32 → Int32 → J → Option ((Int32) × J)} {f : Nat} {l1 : Int32} {l2 : Int32} {l4 : Int32} {σ : J} (hk3 : ∀ {l1 : Int32} {l2 : Int32} {l4 : Int32} {σ : J}, k3 l1 l2 l4 σ = some r0 → q_ex q_pr n 3 102 3 (q_L [(0, .inr (.inr (some (24, 0)))), (1, .inl l1), (2, .inl l2), (4, .inl l4)]) [] σ (M_next_r r0)) (h : M_next_b48 n k3 f l1 l2 l4 σ = some r0) : q_ex q_pr n 3 102 48 (q_L [(0, .inr (.inr (some (24, 0)))), (1, .inl l1), (2, .inl l2), (4, .inl l4)]) [] σ (M_next_r r0) := by
  unfold M_next_b48 at h
  refine q_ex_go 1 (pc' := 49) (L' := (q_L [(0, .inr (.inr (some (24, 0)))), (1, .inl l1), (2, .inl l2), (4, .inl l4)])) (st' := [.inl 0]) (σ' := σ) (fun _ => rfl) ?_
  exact q_ex_ll (M_next_b49_e hk3 h) ⟨rfl, rfl, rfl, rfl, trivial⟩
theorem M_next_b28_e {n : Nat} {r0 : (Int32) × J} {k3 : Int32 → Int32 → Int32 → J → Option ((Int32) × J)} {f : Nat} {l1 : Int32} {l2 : Int32} {l4 : Int32} {σ : J} (hk3 : ∀ {l1 : Int32} {l2 : Int32} {l4 : Int32} {σ : J}, k3 l1 l2 l4 σ = some r0 → q_ex q_pr n 3 102 3 (q_L [(0, .inr (.inr (some (24, 0)))), (1, .inl l1), (2, .inl l2), (4, .inl l4)]) [] σ (M_next_r r0)) (h : M_next_b28 n k3 f l1 l2 l4 σ = some r0) : q_ex q_pr n 3 102 28 (q_L [(0, .inr (.inr (some (24, 0)))), (1, .inl l1), (2, .inl l2), (4, .inl l4)]) [] σ (M_next_r r0) := by
  unfold M_next_b28 at h
  refine q_ex_br 3 (c := l2 < 2) (pc1 := 44) (pc2 := 33) (L' := (q_L [(0, .inr (.inr (some (24, 0)))), (1, .inl l1), (2, .inl l2), (4, .inl l4)])) (st' := []) (σ' := σ) (fun _ => rfl) (fun hc => ?_) (fun hc => ?_)
  · rw [if_pos hc] at h
    exact q_ex_ll (M_next_b44_e hk3 h) ⟨rfl, rfl, rfl, rfl, trivial⟩
  · rw [if_neg hc] at h
    refine q_by h (fun hz h => ?_)
    refine q_ex_gb 4 (pc' := 39) (L' := (q_L [(0, .inr (.inr (some (24, 0)))), (1, .inl l1), (2, .inl l2), (4, .inl l4)])) (st' := [.inl (σ.2.1 54 0 (1 : Int32).toNatClampNeg)]) (σ' := σ) (fun _ => rfl) hz ?_
    refine q_ex_br 2 (c := (σ.2.1 54 0 (1 : Int32).toNatClampNeg) = l4) (pc1 := 48) (pc2 := 44) (L' := (q_L [(0, .inr (.inr (some (24, 0)))), (1, .inl l1), (2, .inl l2), (4, .inl l4)])) (st' := []) (σ' := σ) (fun _ => rfl) (fun hc => ?_) (fun hc => ?_)
    · rw [if_pos hc] at h
      exact q_ex_ll (M_next_b48_e hk3 h) ⟨rfl, rfl, rfl, rfl, trivial⟩
    · rw [if_neg hc] at h
      exact q_ex_ll (M_next_b44_e hk3 h) ⟨rfl, rfl, rfl, rfl, trivial⟩
theorem M_next_b3_e {n : Nat} {r0 : (Int32) × J} {k3 : Int32 → Int32 → Int32 → J → Option ((Int32) × J)} {f : Nat} {l1 : Int32} {l2 : Int32} {l4 : Int32} {σ : J} (hk3 : ∀ {l1 : Int32} {l2 : Int32} {l4 : Int32} {σ : J}, k3 l1 l2 l4 σ = some r0 → q_ex q_pr n 3 102 3 (q_L [(0, .inr (.inr (some (24, 0)))), (1, .inl l1), (2, .inl l2), (4, .inl l4)]) [] σ (M_next_r r0)) (h : M_next_b3 n k3 f l1 l2 l4 σ = some r0) : q_ex q_pr n 3 102 3 (q_L [(0, .inr (.inr (some (24, 0)))), (1, .inl l1), (2, .inl l2), (4, .inl l4)]) [] σ (M_next_r r0) := by
  unfold M_next_b3 at h
  refine q_ex_br 4 (c := (σ.1 24 1 0) ≤ l4) (pc1 := 90) (pc2 := 12) (L' := (q_L [(0, .inr (.inr (some (24, 0)))), (1, .inl l1), (2, .inl l2), (4, .inl l4)])) (st' := []) (σ' := σ) (fun _ => rfl) (fun hc => ?_) (fun hc => ?_)
  · rw [if_pos hc] at h
    refine q_ex_go 2 (pc' := 94) (L' := (q_L [(0, .inr (.inr (some (24, 0)))), (1, .inl l1), (2, .inl l2), (4, .inl l4)])) (st' := [.inl (σ.1 24 1 0)]) (σ' := σ) (fun _ => rfl) ?_
    cases h
    exact ⟨1, rfl⟩
  · rw [if_neg hc] at h
    refine q_ex_br 3 (c := l2 < 1) (pc1 := 28) (pc2 := 17) (L' := (q_L [(0, .inr (.inr (some (24, 0)))), (1, .inl l1), (2, .inl l2), (4, .inl l4)])) (st' := []) (σ' := σ) (fun _ => rfl) (fun hc => ?_) (fun hc => ?_)
    · rw [if_pos hc] at h
      exact q_ex_ll (M_next_b28_e hk3 h) ⟨rfl, rfl, rfl, rfl, trivial⟩
    · rw [if_neg hc] at h
      refine q_by h (fun hz h => ?_)
      refine q_ex_gb 4 (pc' := 23) (L' := (q_L [(0, .inr (.inr (some (24, 0)))), (1, .inl l1), (2, .inl l2), (4, .inl l4)])) (st' := [.inl (σ.2.1 54 0 (0 : Int32).toNatClampNeg)]) (σ' := σ) (fun _ => rfl) hz ?_
      refine q_ex_br 2 (c := (σ.2.1 54 0 (0 : Int32).toNatClampNeg) = l4) (pc1 := 48) (pc2 := 28) (L' := (q_L [(0, .inr (.inr (some (24, 0)))), (1, .inl l1), (2, .inl l2), (4, .inl l4)])) (st' := []) (σ' := σ) (fun _ => rfl) (fun hc => ?_) (fun hc => ?_)
      · rw [if_pos hc] at h
        exact q_ex_ll (M_next_b48_e hk3 h) ⟨rfl, rfl, rfl, rfl, trivial⟩
      · rw [if_neg hc] at h
        exact q_ex_ll (M_next_b28_e hk3 h) ⟨rfl, rfl, rfl, rfl, trivial⟩
theorem M_next_L3_e {n : Nat} {r0 : (Int32) × J} (f : Nat) : ∀ {l1 : Int32} {l2 : Int32} {l4 : Int32} {σ : J}, M_next_L3 n f l1 l2 l4 σ = some r0 → q_ex q_pr n 3 102 3 (q_L [(0, .inr (.inr (some (24, 0)))), (1, .inl l1), (2, .inl l2), (4, .inl l4)]) [] σ (M_next_r r0) := by
  induction f with
  | zero => intro l1 l2 l4 σ h; cases h
  | succ f ih =>
    intro l1 l2 l4 σ h
    exact M_next_b3_e (f := f)  (fun h => ih h) h
theorem M_next_b0_e {n : Nat} {r0 : (Int32) × J} {f : Nat} {l1 : Int32} {l2 : Int32} {l3 : Int32} {σ : J} (h : M_next_b0 n f l1 l2 l3 σ = some r0) : q_ex q_pr n 3 102 0 (q_L [(0, .inr (.inr (some (24, 0)))), (1, .inl l1), (2, .inl l2), (3, .inl l3)]) [] σ (M_next_r r0) := by
  unfold M_next_b0 at h
  refine q_ex_go 2 (pc' := 3) (L' := (q_s1 (q_L [(0, .inr (.inr (some (24, 0)))), (1, .inl l1), (2, .inl l2), (3, .inl l3)]) 4 (.inl l3))) (st' := []) (σ' := σ) (fun _ => rfl) ?_
  exact q_ex_ll (M_next_L3_e f h) ⟨rfl, rfl, rfl, rfl, trivial⟩
theorem M_next_e {n : Nat} {r0 : (Int32) × J} {f : Nat} {x1 : Int32} {x2 : Int32} {x3 : Int32} {σ : J} (h : M_next n f x1 x2 x3 σ = some r0) : q_ex q_pr n 3 102 0 (q_args 0 [.inr (.inr (some (24, 0))), .inl x1, .inl x2, .inl x3]) [] σ (M_next_r r0) := q_ex_ll (M_next_b0_e h) ⟨rfl, rfl, rfl, rfl, trivial⟩
def M_search_r : (Int32) × J → Res := fun q => (.inl (some (.inl q.1)), q.2)
-- 112: M_search
def M_search_b9 (n : Nat) (k9 : Int32 → Int32 → Int32 → J → Option ((Int32) × J)) (f : Nat) (l1 : Int32) (l2 : Int32) (l3 : Int32) (σ : J) : Option ((Int32) × J) := if l3 < 0 then if (0 : Int32) &&& 1 = 0 then some (0, σ) else none else if q_in l3 3 = true then (M_next n f l1 l3 ((σ.2.1 54 0 l3.toNatClampNeg) + 1) σ).bind fun q2 => if q_in l3 3 = true then q_bs (q_sA q2.2 54 0 (upd (q2.2.2.1 54 0) l3.toNatClampNeg q2.1)) fun σ3 => if q_in l3 3 = true then if (σ3.2.1 54 0 l3.toNatClampNeg) = (σ3.1 24 1 0) then k9 l1 l2 (l3 + (-1)) σ3 else if l3 = (l2 - 1) then if (1 : Int32) &&& 1 = 1 then some (1, σ3) else none else if q_in (l3 + 1) 3 = true then q_bs (q_sA σ3 54 0 (upd (σ3.2.1 54 0) ((l3 + 1).toNatClampNeg) (-1))) fun σ4 => k9 l1 l2 (l3 + 1) σ4 else none else none else none else none
def M_search_L9 (n : Nat) : Nat → Int32 → Int32 → Int32 → J → Option ((Int32) × J)
  | 0 => fun _ _ _ _ => none
  | f + 1 => fun l1 l2 l3 σ => M_search_b9 n (M_search_L9 n f) f l1 l2 l3 σ
def M_search_b0 (n : Nat) (f : Nat) (l1 : Int32) (l2 : Int32) (σ : J) : Option ((Int32) × J) := if q_in 0 3 = true then q_bs (q_sA σ 54 0 (upd (σ.2.1 54 0) ((0 : Int32).toNatClampNeg) (-1))) fun σ1 => M_search_L9 n f l1 l2 0 σ1 else none
def M_search (n : Nat) (f : Nat) (x1 : Int32) (x2 : Int32) (σ : J) : Option ((Int32) × J) := M_search_b0 n f x1 x2 σ
theorem M_search_b9_e {n : Nat} {r0 : (Int32) × J} {k9 : Int32 → Int32 → Int32 → J → Option ((Int32) × J)} {f : Nat} {l1 : Int32} {l2 : Int32} {l3 : Int32} {σ : J} (hk9 : ∀ {l1 : Int32} {l2 : Int32} {l3 : Int32} {σ : J}, k9 l1 l2 l3 σ = some r0 → q_ex q_pr n 4 112 9 (q_L [(0, .inr (.inr (some (24, 0)))), (1, .inl l1), (2, .inl l2), (3, .inl l3)]) [] σ (M_search_r r0)) (h : M_search_b9 n k9 f l1 l2 l3 σ = some r0) : q_ex q_pr n 4 112 9 (q_L [(0, .inr (.inr (some (24, 0)))), (1, .inl l1), (2, .inl l2), (3, .inl l3)]) [] σ (M_search_r r0) := by
  unfold M_search_b9 at h
  refine q_ex_br 2 (c := l3 < 0) (pc1 := 74) (pc2 := 13) (L' := (q_L [(0, .inr (.inr (some (24, 0)))), (1, .inl l1), (2, .inl l2), (3, .inl l3)])) (st' := []) (σ' := σ) (fun _ => rfl) (fun hc => ?_) (fun hc => ?_)
  · rw [if_pos hc] at h
    refine q_ex_go 1 (pc' := 75) (L' := (q_L [(0, .inr (.inr (some (24, 0)))), (1, .inl l1), (2, .inl l2), (3, .inl l3)])) (st' := [.inl 0]) (σ' := σ) (fun _ => rfl) ?_
    refine q_by h (fun hz h => ?_)
    cases h
    exact ⟨1, if_pos (e := (none : Option Res)) hz⟩
  · rw [if_neg hc] at h
    refine q_by h (fun hz h => ?_)
    refine q_ex_gb 10 (pc' := 27) (L' := (q_L [(0, .inr (.inr (some (24, 0)))), (1, .inl l1), (2, .inl l2), (3, .inl l3)])) (st' := [.inl (σ.2.1 54 0 l3.toNatClampNeg), .inl l3, .inl l1, .inr (.inr (some (24, 0))), .inl l3, .inr (.inr (some (54, 0)))]) (σ' := σ) (fun _ => rfl) hz ?_
    obtain ⟨q2, hq2, h⟩ := Option.bind_eq_some_iff.mp h
    refine q_ex_ca 3 (k1 := 102) (vs := [.inr (.inr (some (24, 0))), .inl l1, .inl l3, .inl ((σ.2.1 54 0 l3.toNatClampNeg) + 1)]) (pc' := 32) (L' := (q_L [(0, .inr (.inr (some (24, 0)))), (1, .inl l1), (2, .inl l2), (3, .inl l3)])) (rest := [.inl l3, .inr (.inr (some (54, 0)))]) (σ' := σ) (fun _ => rfl) (q_ex_dd (M_next_e hq2) (Nat.le_of_ble_eq_true rfl)) rfl ?_
    refine q_by h (fun hz h => ?_)
    refine q_ex_gb 1 (pc' := 33) (L' := (q_L [(0, .inr (.inr (some (24, 0)))), (1, .inl l1), (2, .inl l2), (3, .inl l3)])) (st' := []) (σ' := (q_sA q2.2 54 0 (upd (q2.2.2.1 54 0) l3.toNatClampNeg q2.1))) (fun _ => rfl) hz ?_
    refine q_nm (G := fun τ => q_ex q_pr n _ 112 33 (q_L [(0, .inr (.inr (some (24, 0)))), (1, .inl l1), (2, .inl l2), (3, .inl l3)]) [] τ _) h (fun σ3 h => ?_)
    refine q_by h (fun hz h => ?_)
    refine q_ex_gb 4 (pc' := 39) (L' := (q_L [(0, .inr (.inr (some (24, 0)))), (1, .inl l1), (2, .inl l2), (3, .inl l3)])) (st' := [.inl (σ3.2.1 54 0 l3.toNatClampNeg)]) (σ' := σ3) (fun _ => rfl) hz ?_
    refine q_ex_br 3 (c := (σ3.2.1 54 0 l3.toNatClampNeg) = (σ3.1 24 1 0)) (pc1 := 46) (pc2 := 52) (L' := (q_L [(0, .inr (.inr (some (24, 0)))), (1, .inl l1), (2, .inl l2), (3, .inl l3)])) (st' := []) (σ' := σ3) (fun _ => rfl) (fun hc => ?_) (fun hc => ?_)
    · rw [if_pos hc] at h
      refine q_ex_go 2 (pc' := 9) (L' := (q_s1 (q_L [(0, .inr (.inr (some (24, 0)))), (1, .inl l1), (2, .inl l2), (3, .inl l3)]) 3 (.inl (l3 + (-1))))) (st' := []) (σ' := σ3) (fun _ => rfl) ?_
      exact q_ex_ll (hk9 h) ⟨rfl, rfl, rfl, rfl, trivial⟩
    · rw [if_neg hc] at h
      refine q_ex_br 5 (c := l3 = (l2 - 1)) (pc1 := 59) (pc2 := 61) (L' := (q_L [(0, .inr (.inr (some (24, 0)))), (1, .inl l1), (2, .inl l2), (3, .inl l3)])) (st' := []) (σ' := σ3) (fun _ => rfl) (fun hc => ?_) (fun hc => ?_)
      · rw [if_pos hc] at h
        refine q_ex_go 1 (pc' := 60) (L' := (q_L [(0, .inr (.inr (some (24, 0)))), (1, .inl l1), (2, .inl l2), (3, .inl l3)])) (st' := [.inl 1]) (σ' := σ3) (fun _ => rfl) ?_
        refine q_by h (fun hz h => ?_)
        cases h
        exact ⟨1, if_pos (e := (none : Option Res)) hz⟩
      · rw [if_neg hc] at h
        refine q_by h (fun hz h => ?_)
        refine q_ex_gb 6 (pc' := 71) (L' := (q_s1 (q_L [(0, .inr (.inr (some (24, 0)))), (1, .inl l1), (2, .inl l2), (3, .inl l3)]) 3 (.inl (l3 + 1)))) (st' := []) (σ' := (q_sA σ3 54 0 (upd (σ3.2.1 54 0) ((l3 + 1).toNatClampNeg) (-1)))) (fun _ => rfl) hz ?_
        refine q_nm (G := fun τ => q_ex q_pr n _ 112 71 (q_s1 (q_L [(0, .inr (.inr (some (24, 0)))), (1, .inl l1), (2, .inl l2), (3, .inl l3)]) 3 (.inl (l3 + 1))) [] τ _) h (fun σ4 h => ?_)
        refine q_ex_go 1 (pc' := 9) (L' := (q_s1 (q_L [(0, .inr (.inr (some (24, 0)))), (1, .inl l1), (2, .inl l2), (3, .inl l3)]) 3 (.inl (l3 + 1)))) (st' := []) (σ' := σ4) (fun _ => rfl) ?_
        exact q_ex_ll (hk9 h) ⟨rfl, rfl, rfl, rfl, trivial⟩
theorem M_search_L9_e {n : Nat} {r0 : (Int32) × J} (f : Nat) : ∀ {l1 : Int32} {l2 : Int32} {l3 : Int32} {σ : J}, M_search_L9 n f l1 l2 l3 σ = some r0 → q_ex q_pr n 4 112 9 (q_L [(0, .inr (.inr (some (24, 0)))), (1, .inl l1), (2, .inl l2), (3, .inl l3)]) [] σ (M_search_r r0) := by
  induction f with
  | zero => intro l1 l2 l3 σ h; cases h
  | succ f ih =>
    intro l1 l2 l3 σ h
    exact M_search_b9_e (f := f)  (fun h => ih h) h
theorem M_search_b0_e {n : Nat} {r0 : (Int32) × J} {f : Nat} {l1 : Int32} {l2 : Int32} {σ : J} (h : M_search_b0 n f l1 l2 σ = some r0) : q_ex q_pr n 4 112 0 (q_L [(0, .inr (.inr (some (24, 0)))), (1, .inl l1), (2, .inl l2)]) [] σ (M_search_r r0) := by
  unfold M_search_b0 at h
  refine q_by h (fun hz h => ?_)
  refine q_ex_gb 7 (pc' := 9) (L' := (q_s1 (q_L [(0, .inr (.inr (some (24, 0)))), (1, .inl l1), (2, .inl l2)]) 3 (.inl 0))) (st' := []) (σ' := (q_sA σ 54 0 (upd (σ.2.1 54 0) ((0 : Int32).toNatClampNeg) (-1)))) (fun _ => rfl) hz ?_
  refine q_nm (G := fun τ => q_ex q_pr n _ 112 9 (q_s1 (q_L [(0, .inr (.inr (some (24, 0)))), (1, .inl l1), (2, .inl l2)]) 3 (.inl 0)) [] τ _) h (fun σ1 h => ?_)
  exact q_ex_ll (M_search_L9_e f h) ⟨rfl, rfl, rfl, rfl, trivial⟩
theorem M_search_e {n : Nat} {r0 : (Int32) × J} {f : Nat} {x1 : Int32} {x2 : Int32} {σ : J} (h : M_search n f x1 x2 σ = some r0) : q_ex q_pr n 4 112 0 (q_args 0 [.inr (.inr (some (24, 0))), .inl x1, .inl x2]) [] σ (M_search_r r0) := q_ex_ll (M_search_b0_e h) ⟨rfl, rfl, rfl, trivial⟩
def M_leave_r : J → Res := fun σ => (.inl none, σ)
-- 101: M_leave
def M_leave_b6 (n : Nat) (k6 : Int32 → J → Option (J)) (f : Nat) (l2 : Int32) (σ : J) : Option (J) := if (σ.1 24 22 0) ≤ (l2 + 1) then q_bs (q_sI σ 24 22 0 ((σ.1 24 22 0) - 1)) fun σ2 => some σ2 else if q_in (l2 + 1) 4 = true then if q_in l2 4 = true then q_bs (q_sA σ 42 0 (upd (σ.2.1 42 0) l2.toNatClampNeg (σ.2.1 42 0 (l2 + 1).toNatClampNeg))) fun σ3 => k6 (l2 + 1) σ3 else none else none
def M_leave_L6 (n : Nat) : Nat → Int32 → J → Option (J)
  | 0 => fun _ _ => none
  | f + 1 => fun l2 σ => M_leave_b6 n (M_leave_L6 n f) f l2 σ
def M_leave_b0 (n : Nat) (f : Nat) (l1 : Int32) (σ : J) : Option (J) := (M_standing n f l1 σ).bind fun q1 => M_leave_L6 n f q1.1 q1.2
def M_leave (n : Nat) (f : Nat) (x1 : Int32) (σ : J) : Option (J) := M_leave_b0 n f x1 σ
theorem M_leave_b6_e {n : Nat} {r0 : J} {k6 : Int32 → J → Option (J)} {f : Nat} {l2 : Int32} {σ : J} (hk6 : ∀ {l2 : Int32} {σ : J}, k6 l2 σ = some r0 → q_ex q_pr n 1 101 6 (q_L [(0, .inr (.inr (some (24, 0)))), (2, .inl l2)]) [] σ (M_leave_r r0)) (h : M_leave_b6 n k6 f l2 σ = some r0) : q_ex q_pr n 1 101 6 (q_L [(0, .inr (.inr (some (24, 0)))), (2, .inl l2)]) [] σ (M_leave_r r0) := by
  unfold M_leave_b6 at h
  refine q_ex_br 6 (c := (σ.1 24 22 0) ≤ (l2 + 1)) (pc1 := 36) (pc2 := 16) (L' := (q_L [(0, .inr (.inr (some (24, 0)))), (2, .inl l2)])) (st' := []) (σ' := σ) (fun _ => rfl) (fun hc => ?_) (fun hc => ?_)
  · rw [if_pos hc] at h
    refine q_ex_go 6 (pc' := 46) (L' := (q_L [(0, .inr (.inr (some (24, 0)))), (2, .inl l2)])) (st' := []) (σ' := (q_sI σ 24 22 0 ((σ.1 24 22 0) - 1))) (fun _ => rfl) ?_
    refine q_nm (G := fun τ => q_ex q_pr n _ 101 46 (q_L [(0, .inr (.inr (some (24, 0)))), (2, .inl l2)]) [] τ _) h (fun σ2 h => ?_)
    cases h
    exact ⟨1, rfl⟩
  · rw [if_neg hc] at h
    refine q_by h (fun hz h => ?_)
    refine q_ex_gb 9 (pc' := 29) (L' := (q_L [(0, .inr (.inr (some (24, 0)))), (2, .inl l2)])) (st' := [.inl (σ.2.1 42 0 (l2 + 1).toNatClampNeg), .inl l2, .inr (.inr (some (42, 0)))]) (σ' := σ) (fun _ => rfl) hz ?_
    refine q_by h (fun hz h => ?_)
    refine q_ex_gb 1 (pc' := 30) (L' := (q_L [(0, .inr (.inr (some (24, 0)))), (2, .inl l2)])) (st' := []) (σ' := (q_sA σ 42 0 (upd (σ.2.1 42 0) l2.toNatClampNeg (σ.2.1 42 0 (l2 + 1).toNatClampNeg)))) (fun _ => rfl) hz ?_
    refine q_nm (G := fun τ => q_ex q_pr n _ 101 30 (q_L [(0, .inr (.inr (some (24, 0)))), (2, .inl l2)]) [] τ _) h (fun σ3 h => ?_)
    refine q_ex_go 2 (pc' := 6) (L' := (q_s1 (q_L [(0, .inr (.inr (some (24, 0)))), (2, .inl l2)]) 2 (.inl (l2 + 1)))) (st' := []) (σ' := σ3) (fun _ => rfl) ?_
    exact q_ex_ll (hk6 h) ⟨rfl, rfl, trivial⟩
theorem M_leave_L6_e {n : Nat} {r0 : J} (f : Nat) : ∀ {l2 : Int32} {σ : J}, M_leave_L6 n f l2 σ = some r0 → q_ex q_pr n 1 101 6 (q_L [(0, .inr (.inr (some (24, 0)))), (2, .inl l2)]) [] σ (M_leave_r r0) := by
  induction f with
  | zero => intro l2 σ h; cases h
  | succ f ih =>
    intro l2 σ h
    exact M_leave_b6_e (f := f)  (fun h => ih h) h
theorem M_leave_b0_e {n : Nat} {r0 : J} {f : Nat} {l1 : Int32} {σ : J} (h : M_leave_b0 n f l1 σ = some r0) : q_ex q_pr n 1 101 0 (q_L [(0, .inr (.inr (some (24, 0)))), (1, .inl l1)]) [] σ (M_leave_r r0) := by
  unfold M_leave_b0 at h
  obtain ⟨q1, hq1, h⟩ := Option.bind_eq_some_iff.mp h
  refine q_ex_ca 3 (k1 := 117) (vs := [.inr (.inr (some (24, 0))), .inl l1]) (pc' := 5) (L' := (q_L [(0, .inr (.inr (some (24, 0)))), (1, .inl l1)])) (rest := []) (σ' := σ) (fun _ => rfl) (q_ex_dd (M_standing_e hq1) (Nat.le_of_ble_eq_true rfl)) rfl ?_
  refine q_ex_go 1 (pc' := 6) (L' := (q_s1 (q_L [(0, .inr (.inr (some (24, 0)))), (1, .inl l1)]) 2 (.inl q1.1))) (st' := []) (σ' := q1.2) (fun _ => rfl) ?_
  exact q_ex_ll (M_leave_L6_e f h) ⟨rfl, rfl, trivial⟩
theorem M_leave_e {n : Nat} {r0 : J} {f : Nat} {x1 : Int32} {σ : J} (h : M_leave n f x1 σ = some r0) : q_ex q_pr n 1 101 0 (q_args 0 [.inr (.inr (some (24, 0))), .inl x1]) [] σ (M_leave_r r0) := q_ex_ll (M_leave_b0_e h) ⟨rfl, rfl, trivial⟩
def M_clear_r : J → Res := fun σ => (.inl none, σ)
-- 83: M_clear
def M_clear_b26 (n : Nat) (k26 : Int32 → Int32 → J → Option (J)) (f : Nat) (l1 : Int32) (l2 : Int32) (σ : J) : Option (J) := if 4 ≤ l2 then some σ else if q_in ((4 * l1) + l2) 16 = true then q_bs (q_sA σ 47 0 (upd (σ.2.1 47 0) (((4 * l1) + l2).toNatClampNeg) (-1))) fun σ2 => if q_in ((4 * l1) + l2) 16 = true then q_bs (q_sL σ2 48 0 (vp_updL (σ2.2.2.1 48 0) (((4 * l1) + l2).toNatClampNeg) 0)) fun σ3 => k26 l1 (l2 + 1) σ3 else none else none
def M_clear_L26 (n : Nat) : Nat → Int32 → Int32 → J → Option (J)
  | 0 => fun _ _ _ => none
  | f + 1 => fun l1 l2 σ => M_clear_b26 n (M_clear_L26 n f) f l1 l2 σ
def M_clear_b2 (n : Nat) (k2 : Int32 → Int32 → J → Option (J)) (f : Nat) (l1 : Int32) (l2 : Int32) (σ : J) : Option (J) := if 3 ≤ l2 then M_clear_L26 n f l1 0 σ else if q_in ((3 * l1) + l2) 12 = true then q_bs (q_sA σ 46 0 (upd (σ.2.1 46 0) (((3 * l1) + l2).toNatClampNeg) (-1))) fun σ1 => k2 l1 (l2 + 1) σ1 else none
def M_clear_L2 (n : Nat) : Nat → Int32 → Int32 → J → Option (J)
  | 0 => fun _ _ _ => none
  | f + 1 => fun l1 l2 σ => M_clear_b2 n (M_clear_L2 n f) f l1 l2 σ
def M_clear_b0 (n : Nat) (f : Nat) (l1 : Int32) (σ : J) : Option (J) := M_clear_L2 n f l1 0 σ
def M_clear (n : Nat) (f : Nat) (x1 : Int32) (σ : J) : Option (J) := M_clear_b0 n f x1 σ
theorem M_clear_b26_e {n : Nat} {r0 : J} {k26 : Int32 → Int32 → J → Option (J)} {f : Nat} {l1 : Int32} {l2 : Int32} {σ : J} (hk26 : ∀ {l1 : Int32} {l2 : Int32} {σ : J}, k26 l1 l2 σ = some r0 → q_ex q_pr n 0 83 26 (q_L [(0, .inr (.inr (some (24, 0)))), (1, .inl l1), (2, .inl l2)]) [] σ (M_clear_r r0)) (h : M_clear_b26 n k26 f l1 l2 σ = some r0) : q_ex q_pr n 0 83 26 (q_L [(0, .inr (.inr (some (24, 0)))), (1, .inl l1), (2, .inl l2)]) [] σ (M_clear_r r0) := by
  unfold M_clear_b26 at h
  refine q_ex_br 3 (c := 4 ≤ l2) (pc1 := 59) (pc2 := 31) (L' := (q_L [(0, .inr (.inr (some (24, 0)))), (1, .inl l1), (2, .inl l2)])) (st' := []) (σ' := σ) (fun _ => rfl) (fun hc => ?_) (fun hc => ?_)
  · rw [if_pos hc] at h
    cases h
    exact ⟨1, rfl⟩
  · rw [if_neg hc] at h
    refine q_by h (fun hz h => ?_)
    refine q_ex_gb 9 (pc' := 42) (L' := (q_L [(0, .inr (.inr (some (24, 0)))), (1, .inl l1), (2, .inl l2)])) (st' := []) (σ' := (q_sA σ 47 0 (upd (σ.2.1 47 0) (((4 * l1) + l2).toNatClampNeg) (-1)))) (fun _ => rfl) hz ?_
    refine q_nm (G := fun τ => q_ex q_pr n _ 83 42 (q_L [(0, .inr (.inr (some (24, 0)))), (1, .inl l1), (2, .inl l2)]) [] τ _) h (fun σ2 h => ?_)
    refine q_by h (fun hz h => ?_)
    refine q_ex_gb 9 (pc' := 53) (L' := (q_L [(0, .inr (.inr (some (24, 0)))), (1, .inl l1), (2, .inl l2)])) (st' := []) (σ' := (q_sL σ2 48 0 (vp_updL (σ2.2.2.1 48 0) (((4 * l1) + l2).toNatClampNeg) 0))) (fun _ => rfl) hz ?_
    refine q_nm (G := fun τ => q_ex q_pr n _ 83 53 (q_L [(0, .inr (.inr (some (24, 0)))), (1, .inl l1), (2, .inl l2)]) [] τ _) h (fun σ3 h => ?_)
    refine q_ex_go 2 (pc' := 26) (L' := (q_s1 (q_L [(0, .inr (.inr (some (24, 0)))), (1, .inl l1), (2, .inl l2)]) 2 (.inl (l2 + 1)))) (st' := []) (σ' := σ3) (fun _ => rfl) ?_
    exact q_ex_ll (hk26 h) ⟨rfl, rfl, rfl, trivial⟩
theorem M_clear_L26_e {n : Nat} {r0 : J} (f : Nat) : ∀ {l1 : Int32} {l2 : Int32} {σ : J}, M_clear_L26 n f l1 l2 σ = some r0 → q_ex q_pr n 0 83 26 (q_L [(0, .inr (.inr (some (24, 0)))), (1, .inl l1), (2, .inl l2)]) [] σ (M_clear_r r0) := by
  induction f with
  | zero => intro l1 l2 σ h; cases h
  | succ f ih =>
    intro l1 l2 σ h
    exact M_clear_b26_e (f := f)  (fun h => ih h) h
theorem M_clear_b2_e {n : Nat} {r0 : J} {k2 : Int32 → Int32 → J → Option (J)} {f : Nat} {l1 : Int32} {l2 : Int32} {σ : J} (hk2 : ∀ {l1 : Int32} {l2 : Int32} {σ : J}, k2 l1 l2 σ = some r0 → q_ex q_pr n 0 83 2 (q_L [(0, .inr (.inr (some (24, 0)))), (1, .inl l1), (2, .inl l2)]) [] σ (M_clear_r r0)) (h : M_clear_b2 n k2 f l1 l2 σ = some r0) : q_ex q_pr n 0 83 2 (q_L [(0, .inr (.inr (some (24, 0)))), (1, .inl l1), (2, .inl l2)]) [] σ (M_clear_r r0) := by
  unfold M_clear_b2 at h
  refine q_ex_br 3 (c := 3 ≤ l2) (pc1 := 24) (pc2 := 7) (L' := (q_L [(0, .inr (.inr (some (24, 0)))), (1, .inl l1), (2, .inl l2)])) (st' := []) (σ' := σ) (fun _ => rfl) (fun hc => ?_) (fun hc => ?_)
  · rw [if_pos hc] at h
    refine q_ex_go 2 (pc' := 26) (L' := (q_s1 (q_L [(0, .inr (.inr (some (24, 0)))), (1, .inl l1), (2, .inl l2)]) 2 (.inl 0))) (st' := []) (σ' := σ) (fun _ => rfl) ?_
    exact q_ex_ll (M_clear_L26_e f h) ⟨rfl, rfl, rfl, trivial⟩
  · rw [if_neg hc] at h
    refine q_by h (fun hz h => ?_)
    refine q_ex_gb 9 (pc' := 18) (L' := (q_L [(0, .inr (.inr (some (24, 0)))), (1, .inl l1), (2, .inl l2)])) (st' := []) (σ' := (q_sA σ 46 0 (upd (σ.2.1 46 0) (((3 * l1) + l2).toNatClampNeg) (-1)))) (fun _ => rfl) hz ?_
    refine q_nm (G := fun τ => q_ex q_pr n _ 83 18 (q_L [(0, .inr (.inr (some (24, 0)))), (1, .inl l1), (2, .inl l2)]) [] τ _) h (fun σ1 h => ?_)
    refine q_ex_go 2 (pc' := 2) (L' := (q_s1 (q_L [(0, .inr (.inr (some (24, 0)))), (1, .inl l1), (2, .inl l2)]) 2 (.inl (l2 + 1)))) (st' := []) (σ' := σ1) (fun _ => rfl) ?_
    exact q_ex_ll (hk2 h) ⟨rfl, rfl, rfl, trivial⟩
theorem M_clear_L2_e {n : Nat} {r0 : J} (f : Nat) : ∀ {l1 : Int32} {l2 : Int32} {σ : J}, M_clear_L2 n f l1 l2 σ = some r0 → q_ex q_pr n 0 83 2 (q_L [(0, .inr (.inr (some (24, 0)))), (1, .inl l1), (2, .inl l2)]) [] σ (M_clear_r r0) := by
  induction f with
  | zero => intro l1 l2 σ h; cases h
  | succ f ih =>
    intro l1 l2 σ h
    exact M_clear_b2_e (f := f)  (fun h => ih h) h
theorem M_clear_b0_e {n : Nat} {r0 : J} {f : Nat} {l1 : Int32} {σ : J} (h : M_clear_b0 n f l1 σ = some r0) : q_ex q_pr n 0 83 0 (q_L [(0, .inr (.inr (some (24, 0)))), (1, .inl l1)]) [] σ (M_clear_r r0) := by
  unfold M_clear_b0 at h
  refine q_ex_go 2 (pc' := 2) (L' := (q_s1 (q_L [(0, .inr (.inr (some (24, 0)))), (1, .inl l1)]) 2 (.inl 0))) (st' := []) (σ' := σ) (fun _ => rfl) ?_
  exact q_ex_ll (M_clear_L2_e f h) ⟨rfl, rfl, rfl, trivial⟩
theorem M_clear_e {n : Nat} {r0 : J} {f : Nat} {x1 : Int32} {σ : J} (h : M_clear n f x1 σ = some r0) : q_ex q_pr n 0 83 0 (q_args 0 [.inr (.inr (some (24, 0))), .inl x1]) [] σ (M_clear_r r0) := q_ex_ll (M_clear_b0_e h) ⟨rfl, rfl, trivial⟩
def M_place_r : (Int32) × J → Res := fun q => (.inl (some (.inl q.1)), q.2)
-- 107: M_place
def M_place_b27 (n : Nat) (k4 : Int32 → Int32 → Int32 → J → Option ((Int32) × J)) (f : Nat) (l1 : Int32) (l3 : Int32) (s0 : Int32) (σ : J) : Option ((Int32) × J) := k4 l1 s0 (l3 + 1) σ
def M_place_b4 (n : Nat) (k4 : Int32 → Int32 → Int32 → J → Option ((Int32) × J)) (f : Nat) (l1 : Int32) (l2 : Int32) (l3 : Int32) (σ : J) : Option ((Int32) × J) := if (σ.1 24 1 0) ≤ l3 then some (l2, σ) else if q_in l3 20 = true then if (σ.2.1 25 0 l3.toNatClampNeg) = l1 then M_place_b27 n k4 f l1 l3 l3 σ else M_place_b27 n k4 f l1 l3 l2 σ else none
def M_place_L4 (n : Nat) : Nat → Int32 → Int32 → Int32 → J → Option ((Int32) × J)
  | 0 => fun _ _ _ _ => none
  | f + 1 => fun l1 l2 l3 σ => M_place_b4 n (M_place_L4 n f) f l1 l2 l3 σ
def M_place_b0 (n : Nat) (f : Nat) (l1 : Int32) (σ : J) : Option ((Int32) × J) := M_place_L4 n f l1 (-1) 0 σ
def M_place (n : Nat) (f : Nat) (x1 : Int32) (σ : J) : Option ((Int32) × J) := M_place_b0 n f x1 σ
theorem M_place_b27_e {n : Nat} {r0 : (Int32) × J} {k4 : Int32 → Int32 → Int32 → J → Option ((Int32) × J)} {f : Nat} {l1 : Int32} {l3 : Int32} {s0 : Int32} {σ : J} (hk4 : ∀ {l1 : Int32} {l2 : Int32} {l3 : Int32} {σ : J}, k4 l1 l2 l3 σ = some r0 → q_ex q_pr n 0 107 4 (q_L [(0, .inr (.inr (some (24, 0)))), (1, .inl l1), (2, .inl l2), (3, .inl l3)]) [] σ (M_place_r r0)) (h : M_place_b27 n k4 f l1 l3 s0 σ = some r0) : q_ex q_pr n 0 107 27 (q_L [(0, .inr (.inr (some (24, 0)))), (1, .inl l1), (3, .inl l3)]) [.inl s0] σ (M_place_r r0) := by
  unfold M_place_b27 at h
  refine q_ex_go 3 (pc' := 4) (L' := (q_s1 (q_s1 (q_L [(0, .inr (.inr (some (24, 0)))), (1, .inl l1), (3, .inl l3)]) 2 (.inl s0)) 3 (.inl (l3 + 1)))) (st' := []) (σ' := σ) (fun _ => rfl) ?_
  exact q_ex_ll (hk4 h) ⟨rfl, rfl, rfl, rfl, trivial⟩
theorem M_place_b4_e {n : Nat} {r0 : (Int32) × J} {k4 : Int32 → Int32 → Int32 → J → Option ((Int32) × J)} {f : Nat} {l1 : Int32} {l2 : Int32} {l3 : Int32} {σ : J} (hk4 : ∀ {l1 : Int32} {l2 : Int32} {l3 : Int32} {σ : J}, k4 l1 l2 l3 σ = some r0 → q_ex q_pr n 0 107 4 (q_L [(0, .inr (.inr (some (24, 0)))), (1, .inl l1), (2, .inl l2), (3, .inl l3)]) [] σ (M_place_r r0)) (h : M_place_b4 n k4 f l1 l2 l3 σ = some r0) : q_ex q_pr n 0 107 4 (q_L [(0, .inr (.inr (some (24, 0)))), (1, .inl l1), (2, .inl l2), (3, .inl l3)]) [] σ (M_place_r r0) := by
  unfold M_place_b4 at h
  refine q_ex_br 4 (c := (σ.1 24 1 0) ≤ l3) (pc1 := 34) (pc2 := 12) (L' := (q_L [(0, .inr (.inr (some (24, 0)))), (1, .inl l1), (2, .inl l2), (3, .inl l3)])) (st' := []) (σ' := σ) (fun _ => rfl) (fun hc => ?_) (fun hc => ?_)
  · rw [if_pos hc] at h
    refine q_ex_go 1 (pc' := 35) (L' := (q_L [(0, .inr (.inr (some (24, 0)))), (1, .inl l1), (2, .inl l2), (3, .inl l3)])) (st' := [.inl l2]) (σ' := σ) (fun _ => rfl) ?_
    cases h
    exact ⟨1, rfl⟩
  · rw [if_neg hc] at h
    refine q_by h (fun hz h => ?_)
    refine q_ex_gb 4 (pc' := 18) (L' := (q_L [(0, .inr (.inr (some (24, 0)))), (1, .inl l1), (2, .inl l2), (3, .inl l3)])) (st' := [.inl (σ.2.1 25 0 l3.toNatClampNeg)]) (σ' := σ) (fun _ => rfl) hz ?_
    refine q_ex_br 2 (c := (σ.2.1 25 0 l3.toNatClampNeg) = l1) (pc1 := 22) (pc2 := 26) (L' := (q_L [(0, .inr (.inr (some (24, 0)))), (1, .inl l1), (2, .inl l2), (3, .inl l3)])) (st' := []) (σ' := σ) (fun _ => rfl) (fun hc => ?_) (fun hc => ?_)
    · rw [if_pos hc] at h
      refine q_ex_go 2 (pc' := 27) (L' := (q_L [(0, .inr (.inr (some (24, 0)))), (1, .inl l1), (2, .inl l2), (3, .inl l3)])) (st' := [.inl l3]) (σ' := σ) (fun _ => rfl) ?_
      exact q_ex_ll (M_place_b27_e hk4 h) ⟨rfl, rfl, rfl, trivial⟩
    · rw [if_neg hc] at h
      refine q_ex_go 1 (pc' := 27) (L' := (q_L [(0, .inr (.inr (some (24, 0)))), (1, .inl l1), (2, .inl l2), (3, .inl l3)])) (st' := [.inl l2]) (σ' := σ) (fun _ => rfl) ?_
      exact q_ex_ll (M_place_b27_e hk4 h) ⟨rfl, rfl, rfl, trivial⟩
theorem M_place_L4_e {n : Nat} {r0 : (Int32) × J} (f : Nat) : ∀ {l1 : Int32} {l2 : Int32} {l3 : Int32} {σ : J}, M_place_L4 n f l1 l2 l3 σ = some r0 → q_ex q_pr n 0 107 4 (q_L [(0, .inr (.inr (some (24, 0)))), (1, .inl l1), (2, .inl l2), (3, .inl l3)]) [] σ (M_place_r r0) := by
  induction f with
  | zero => intro l1 l2 l3 σ h; cases h
  | succ f ih =>
    intro l1 l2 l3 σ h
    exact M_place_b4_e (f := f)  (fun h => ih h) h
theorem M_place_b0_e {n : Nat} {r0 : (Int32) × J} {f : Nat} {l1 : Int32} {σ : J} (h : M_place_b0 n f l1 σ = some r0) : q_ex q_pr n 0 107 0 (q_L [(0, .inr (.inr (some (24, 0)))), (1, .inl l1)]) [] σ (M_place_r r0) := by
  unfold M_place_b0 at h
  refine q_ex_go 4 (pc' := 4) (L' := (q_s1 (q_s1 (q_L [(0, .inr (.inr (some (24, 0)))), (1, .inl l1)]) 2 (.inl (-1))) 3 (.inl 0))) (st' := []) (σ' := σ) (fun _ => rfl) ?_
  exact q_ex_ll (M_place_L4_e f h) ⟨rfl, rfl, rfl, rfl, trivial⟩
theorem M_place_e {n : Nat} {r0 : (Int32) × J} {f : Nat} {x1 : Int32} {σ : J} (h : M_place n f x1 σ = some r0) : q_ex q_pr n 0 107 0 (q_args 0 [.inr (.inr (some (24, 0))), .inl x1]) [] σ (M_place_r r0) := q_ex_ll (M_place_b0_e h) ⟨rfl, rfl, trivial⟩
def M_keep_r : J → Res := fun σ => (.inl none, σ)
-- 100: M_keep
def M_keep_b195 (n : Nat) (f : Nat) (σ : J) : Option (J) := some σ
def M_keep_b189 (n : Nat) (k123 : Int32 → Int32 → Int32 → Int32 → J → Option (J)) (f : Nat) (l1 : Int32) (l2 : Int32) (l3 : Int32) (l4 : Int32) (σ : J) : Option (J) := k123 l1 l2 l3 (l4 + 1) σ
def M_keep_b123 (n : Nat) (k123 : Int32 → Int32 → Int32 → Int32 → J → Option (J)) (f : Nat) (l1 : Int32) (l2 : Int32) (l3 : Int32) (l4 : Int32) (σ : J) : Option (J) := if l2 ≤ l4 then M_keep_b195 n f σ else if l3 = 0 then M_keep_b195 n f σ else if q_in ((3 * l1) + l4) 12 = true then (M_place n f (σ.2.1 46 0 ((3 * l1) + l4).toNatClampNeg) σ).bind fun q5 => if q_in l1 4 = true then if (q5.2.2.1 34 0 l1.toNatClampNeg) = 0 then (M_remove n f q5.1 q5.2).bind fun q6 => M_keep_b189 n k123 f l1 l2 l3 l4 q6 else if q_in q5.1 20 = true then q_bs (q_sA q5.2 30 0 (upd (q5.2.2.1 30 0) q5.1.toNatClampNeg l1)) fun σ7 => if q_in l1 4 = true then if q_in q5.1 20 = true then q_bs (q_sA σ7 31 0 (upd (σ7.2.1 31 0) q5.1.toNatClampNeg (σ7.2.1 34 0 l1.toNatClampNeg))) fun σ8 => M_keep_b189 n k123 f l1 l2 l3 l4 σ8 else none else none else none else none else none
def M_keep_L123 (n : Nat) : Nat → Int32 → Int32 → Int32 → Int32 → J → Option (J)
  | 0 => fun _ _ _ _ _ => none
  | f + 1 => fun l1 l2 l3 l4 σ => M_keep_b123 n (M_keep_L123 n f) f l1 l2 l3 l4 σ
def M_keep_b113 (n : Nat) (k46 : Int32 → Int32 → Int32 → Int32 → J → Option (J)) (f : Nat) (l1 : Int32) (l2 : Int32) (l3 : Int32) (l4 : Int32) (s1 : Int32) (s2 : Int64) (σ : J) : Option (J) := if q_in s1 16 = true then q_bs (q_sL σ 48 0 (vp_updL (σ.2.2.1 48 0) s1.toNatClampNeg s2)) fun σ4 => k46 l1 l2 l3 (l4 + 1) σ4 else none
def M_keep_b46 (n : Nat) (k46 : Int32 → Int32 → Int32 → Int32 → J → Option (J)) (f : Nat) (l1 : Int32) (l2 : Int32) (l3 : Int32) (l4 : Int32) (σ : J) : Option (J) := if 4 ≤ l4 then M_keep_L123 n f l1 l2 l3 0 σ else if q_in ((4 * l2) + l4) 16 = true then if q_in ((4 * l1) + l4) 16 = true then q_bs (q_sA σ 47 0 (upd (σ.2.1 47 0) (((4 * l1) + l4).toNatClampNeg) (σ.2.1 52 0 ((4 * l2) + l4).toNatClampNeg))) fun σ3 => if q_in ((4 * l2) + l4) 16 = true then if 0 ≤ (σ3.2.1 52 0 ((4 * l2) + l4).toNatClampNeg) then if q_in ((4 * l2) + l4) 16 = true then M_keep_b113 n k46 f l1 l2 l3 l4 ((4 * l1) + l4) (σ3.2.2.1 53 0 ((4 * l2) + l4).toNatClampNeg) σ3 else none else M_keep_b113 n k46 f l1 l2 l3 l4 ((4 * l1) + l4) 0 σ3 else none else none else none
def M_keep_L46 (n : Nat) : Nat → Int32 → Int32 → Int32 → Int32 → J → Option (J)
  | 0 => fun _ _ _ _ _ => none
  | f + 1 => fun l1 l2 l3 l4 σ => M_keep_b46 n (M_keep_L46 n f) f l1 l2 l3 l4 σ
def M_keep_b8 (n : Nat) (k8 : Int32 → Int32 → Int32 → Int32 → J → Option (J)) (f : Nat) (l1 : Int32) (l2 : Int32) (l3 : Int32) (l4 : Int32) (σ : J) : Option (J) := if l2 ≤ l4 then M_keep_L46 n f l1 l2 l3 0 σ else if q_in l4 3 = true then if q_in (σ.2.1 54 0 l4.toNatClampNeg) 20 = true then if q_in ((3 * l1) + l4) 12 = true then q_bs (q_sA σ 46 0 (upd (σ.2.1 46 0) (((3 * l1) + l4).toNatClampNeg) (σ.2.1 25 0 (σ.2.1 54 0 l4.toNatClampNeg).toNatClampNeg))) fun σ2 => k8 l1 l2 l3 (l4 + 1) σ2 else none else none else none
def M_keep_L8 (n : Nat) : Nat → Int32 → Int32 → Int32 → Int32 → J → Option (J)
  | 0 => fun _ _ _ _ _ => none
  | f + 1 => fun l1 l2 l3 l4 σ => M_keep_b8 n (M_keep_L8 n f) f l1 l2 l3 l4 σ
def M_keep_b0 (n : Nat) (f : Nat) (l1 : Int32) (l2 : Int32) (l3 : Int32) (σ : J) : Option (J) := (M_clear n f l1 σ).bind fun q1 => M_keep_L8 n f l1 l2 l3 0 q1
def M_keep (n : Nat) (f : Nat) (x1 : Int32) (x2 : Int32) (x3 : Int32) (σ : J) : Option (J) := M_keep_b0 n f x1 x2 x3 σ
theorem M_keep_b195_e {n : Nat} {r0 : J} {f : Nat} {σ : J} (h : M_keep_b195 n f σ = some r0) : q_ex q_pr n 1 100 195 (q_L []) [] σ (M_keep_r r0) := by
  unfold M_keep_b195 at h
  cases h
  exact ⟨1, rfl⟩
theorem M_keep_b189_e {n : Nat} {r0 : J} {k123 : Int32 → Int32 → Int32 → Int32 → J → Option (J)} {f : Nat} {l1 : Int32} {l2 : Int32} {l3 : Int32} {l4 : Int32} {σ : J} (hk123 : ∀ {l1 : Int32} {l2 : Int32} {l3 : Int32} {l4 : Int32} {σ : J}, k123 l1 l2 l3 l4 σ = some r0 → q_ex q_pr n 1 100 123 (q_L [(0, .inr (.inr (some (24, 0)))), (1, .inl l1), (2, .inl l2), (3, .inl l3), (4, .inl l4)]) [] σ (M_keep_r r0)) (h : M_keep_b189 n k123 f l1 l2 l3 l4 σ = some r0) : q_ex q_pr n 1 100 189 (q_L [(0, .inr (.inr (some (24, 0)))), (1, .inl l1), (2, .inl l2), (3, .inl l3), (4, .inl l4)]) [] σ (M_keep_r r0) := by
  unfold M_keep_b189 at h
  refine q_ex_go 2 (pc' := 123) (L' := (q_s1 (q_L [(0, .inr (.inr (some (24, 0)))), (1, .inl l1), (2, .inl l2), (3, .inl l3), (4, .inl l4)]) 4 (.inl (l4 + 1)))) (st' := []) (σ' := σ) (fun _ => rfl) ?_
  exact q_ex_ll (hk123 h) ⟨rfl, rfl, rfl, rfl, rfl, trivial⟩
theorem M_keep_b123_e {n : Nat} {r0 : J} {k123 : Int32 → Int32 → Int32 → Int32 → J → Option (J)} {f : Nat} {l1 : Int32} {l2 : Int32} {l3 : Int32} {l4 : Int32} {σ : J} (hk123 : ∀ {l1 : Int32} {l2 : Int32} {l3 : Int32} {l4 : Int32} {σ : J}, k123 l1 l2 l3 l4 σ = some r0 → q_ex q_pr n 1 100 123 (q_L [(0, .inr (.inr (some (24, 0)))), (1, .inl l1), (2, .inl l2), (3, .inl l3), (4, .inl l4)]) [] σ (M_keep_r r0)) (h : M_keep_b123 n k123 f l1 l2 l3 l4 σ = some r0) : q_ex q_pr n 1 100 123 (q_L [(0, .inr (.inr (some (24, 0)))), (1, .inl l1), (2, .inl l2), (3, .inl l3), (4, .inl l4)]) [] σ (M_keep_r r0) := by
  unfold M_keep_b123 at h
  refine q_ex_br 3 (c := l2 ≤ l4) (pc1 := 195) (pc2 := 129) (L' := (q_L [(0, .inr (.inr (some (24, 0)))), (1, .inl l1), (2, .inl l2), (3, .inl l3), (4, .inl l4)])) (st' := []) (σ' := σ) (fun _ => rfl) (fun hc => ?_) (fun hc => ?_)
  · rw [if_pos hc] at h
    exact q_ex_ll (M_keep_b195_e h) trivial
  · rw [if_neg hc] at h
    refine q_ex_br 2 (c := l3 = 0) (pc1 := 195) (pc2 := 133) (L' := (q_L [(0, .inr (.inr (some (24, 0)))), (1, .inl l1), (2, .inl l2), (3, .inl l3), (4, .inl l4)])) (st' := []) (σ' := σ) (fun _ => rfl) (fun hc => ?_) (fun hc => ?_)
    · rw [if_pos hc] at h
      exact q_ex_ll (M_keep_b195_e h) trivial
    · rw [if_neg hc] at h
      refine q_by h (fun hz h => ?_)
      refine q_ex_gb 9 (pc' := 145) (L' := (q_L [(0, .inr (.inr (some (24, 0)))), (1, .inl l1), (2, .inl l2), (3, .inl l3), (4, .inl l4)])) (st' := [.inl (σ.2.1 46 0 ((3 * l1) + l4).toNatClampNeg), .inr (.inr (some (24, 0)))]) (σ' := σ) (fun _ => rfl) hz ?_
      obtain ⟨q5, hq5, h⟩ := Option.bind_eq_some_iff.mp h
      refine q_ex_ca 1 (k1 := 107) (vs := [.inr (.inr (some (24, 0))), .inl (σ.2.1 46 0 ((3 * l1) + l4).toNatClampNeg)]) (pc' := 148) (L' := (q_L [(0, .inr (.inr (some (24, 0)))), (1, .inl l1), (2, .inl l2), (3, .inl l3), (4, .inl l4)])) (rest := []) (σ' := σ) (fun _ => rfl) (q_ex_dd (M_place_e hq5) (Nat.le_of_ble_eq_true rfl)) rfl ?_
      refine q_by h (fun hz h => ?_)
      refine q_ex_gb 5 (pc' := 156) (L' := (q_s1 (q_L [(0, .inr (.inr (some (24, 0)))), (1, .inl l1), (2, .inl l2), (3, .inl l3), (4, .inl l4)]) 5 (.inl q5.1))) (st' := [.inl (q5.2.2.1 34 0 l1.toNatClampNeg)]) (σ' := q5.2) (fun _ => rfl) hz ?_
      refine q_ex_br 1 (c := (q5.2.2.1 34 0 l1.toNatClampNeg) = 0) (pc1 := 159) (pc2 := 168) (L' := (q_s1 (q_L [(0, .inr (.inr (some (24, 0)))), (1, .inl l1), (2, .inl l2), (3, .inl l3), (4, .inl l4)]) 5 (.inl q5.1))) (st' := []) (σ' := q5.2) (fun _ => rfl) (fun hc => ?_) (fun hc => ?_)
      · rw [if_pos hc] at h
        obtain ⟨q6, hq6, h⟩ := Option.bind_eq_some_iff.mp h
        refine q_ex_ca 3 (k1 := 110) (vs := [.inr (.inr (some (24, 0))), .inl q5.1]) (pc' := 165) (L' := (q_s1 (q_L [(0, .inr (.inr (some (24, 0)))), (1, .inl l1), (2, .inl l2), (3, .inl l3), (4, .inl l4)]) 5 (.inl q5.1))) (rest := []) (σ' := q5.2) (fun _ => rfl) (q_ex_dd (M_remove_e hq6) (Nat.le_of_ble_eq_true rfl)) rfl ?_
        refine q_ex_go 1 (pc' := 189) (L' := (q_s1 (q_L [(0, .inr (.inr (some (24, 0)))), (1, .inl l1), (2, .inl l2), (3, .inl l3), (4, .inl l4)]) 5 (.inl q5.1))) (st' := []) (σ' := q6) (fun _ => rfl) ?_
        exact q_ex_ll (M_keep_b189_e hk123 h) ⟨rfl, rfl, rfl, rfl, rfl, trivial⟩
      · rw [if_neg hc] at h
        refine q_by h (fun hz h => ?_)
        refine q_ex_gb 5 (pc' := 176) (L' := (q_s1 (q_L [(0, .inr (.inr (some (24, 0)))), (1, .inl l1), (2, .inl l2), (3, .inl l3), (4, .inl l4)]) 5 (.inl q5.1))) (st' := []) (σ' := (q_sA q5.2 30 0 (upd (q5.2.2.1 30 0) q5.1.toNatClampNeg l1))) (fun _ => rfl) hz ?_
        refine q_nm (G := fun τ => q_ex q_pr n _ 100 176 (q_s1 (q_L [(0, .inr (.inr (some (24, 0)))), (1, .inl l1), (2, .inl l2), (3, .inl l3), (4, .inl l4)]) 5 (.inl q5.1)) [] τ _) h (fun σ7 h => ?_)
        refine q_by h (fun hz h => ?_)
        refine q_ex_gb 7 (pc' := 188) (L' := (q_s1 (q_L [(0, .inr (.inr (some (24, 0)))), (1, .inl l1), (2, .inl l2), (3, .inl l3), (4, .inl l4)]) 5 (.inl q5.1))) (st' := [.inl (σ7.2.1 34 0 l1.toNatClampNeg), .inl q5.1, .inr (.inr (some (31, 0)))]) (σ' := σ7) (fun _ => rfl) hz ?_
        refine q_by h (fun hz h => ?_)
        refine q_ex_gb 1 (pc' := 189) (L' := (q_s1 (q_L [(0, .inr (.inr (some (24, 0)))), (1, .inl l1), (2, .inl l2), (3, .inl l3), (4, .inl l4)]) 5 (.inl q5.1))) (st' := []) (σ' := (q_sA σ7 31 0 (upd (σ7.2.1 31 0) q5.1.toNatClampNeg (σ7.2.1 34 0 l1.toNatClampNeg)))) (fun _ => rfl) hz ?_
        refine q_nm (G := fun τ => q_ex q_pr n _ 100 189 (q_s1 (q_L [(0, .inr (.inr (some (24, 0)))), (1, .inl l1), (2, .inl l2), (3, .inl l3), (4, .inl l4)]) 5 (.inl q5.1)) [] τ _) h (fun σ8 h => ?_)
        exact q_ex_ll (M_keep_b189_e hk123 h) ⟨rfl, rfl, rfl, rfl, rfl, trivial⟩
theorem M_keep_L123_e {n : Nat} {r0 : J} (f : Nat) : ∀ {l1 : Int32} {l2 : Int32} {l3 : Int32} {l4 : Int32} {σ : J}, M_keep_L123 n f l1 l2 l3 l4 σ = some r0 → q_ex q_pr n 1 100 123 (q_L [(0, .inr (.inr (some (24, 0)))), (1, .inl l1), (2, .inl l2), (3, .inl l3), (4, .inl l4)]) [] σ (M_keep_r r0) := by
  induction f with
  | zero => intro l1 l2 l3 l4 σ h; cases h
  | succ f ih =>
    intro l1 l2 l3 l4 σ h
    exact M_keep_b123_e (f := f)  (fun h => ih h) h
theorem M_keep_b113_e {n : Nat} {r0 : J} {k46 : Int32 → Int32 → Int32 → Int32 → J → Option (J)} {f : Nat} {l1 : Int32} {l2 : Int32} {l3 : Int32} {l4 : Int32} {s1 : Int32} {s2 : Int64} {σ : J} (hk46 : ∀ {l1 : Int32} {l2 : Int32} {l3 : Int32} {l4 : Int32} {σ : J}, k46 l1 l2 l3 l4 σ = some r0 → q_ex q_pr n 1 100 46 (q_L [(0, .inr (.inr (some (24, 0)))), (1, .inl l1), (2, .inl l2), (3, .inl l3), (4, .inl l4)]) [] σ (M_keep_r r0)) (h : M_keep_b113 n k46 f l1 l2 l3 l4 s1 s2 σ = some r0) : q_ex q_pr n 1 100 113 (q_L [(0, .inr (.inr (some (24, 0)))), (1, .inl l1), (2, .inl l2), (3, .inl l3), (4, .inl l4)]) [.inr (.inl s2), .inl s1, .inr (.inr (some (48, 0)))] σ (M_keep_r r0) := by
  unfold M_keep_b113 at h
  refine q_by h (fun hz h => ?_)
  refine q_ex_gb 1 (pc' := 114) (L' := (q_L [(0, .inr (.inr (some (24, 0)))), (1, .inl l1), (2, .inl l2), (3, .inl l3), (4, .inl l4)])) (st' := []) (σ' := (q_sL σ 48 0 (vp_updL (σ.2.2.1 48 0) s1.toNatClampNeg s2))) (fun _ => rfl) hz ?_
  refine q_nm (G := fun τ => q_ex q_pr n _ 100 114 (q_L [(0, .inr (.inr (some (24, 0)))), (1, .inl l1), (2, .inl l2), (3, .inl l3), (4, .inl l4)]) [] τ _) h (fun σ4 h => ?_)
  refine q_ex_go 2 (pc' := 46) (L' := (q_s1 (q_L [(0, .inr (.inr (some (24, 0)))), (1, .inl l1), (2, .inl l2), (3, .inl l3), (4, .inl l4)]) 4 (.inl (l4 + 1)))) (st' := []) (σ' := σ4) (fun _ => rfl) ?_
  exact q_ex_ll (hk46 h) ⟨rfl, rfl, rfl, rfl, rfl, trivial⟩
theorem M_keep_b46_e {n : Nat} {r0 : J} {k46 : Int32 → Int32 → Int32 → Int32 → J → Option (J)} {f : Nat} {l1 : Int32} {l2 : Int32} {l3 : Int32} {l4 : Int32} {σ : J} (hk46 : ∀ {l1 : Int32} {l2 : Int32} {l3 : Int32} {l4 : Int32} {σ : J}, k46 l1 l2 l3 l4 σ = some r0 → q_ex q_pr n 1 100 46 (q_L [(0, .inr (.inr (some (24, 0)))), (1, .inl l1), (2, .inl l2), (3, .inl l3), (4, .inl l4)]) [] σ (M_keep_r r0)) (h : M_keep_b46 n k46 f l1 l2 l3 l4 σ = some r0) : q_ex q_pr n 1 100 46 (q_L [(0, .inr (.inr (some (24, 0)))), (1, .inl l1), (2, .inl l2), (3, .inl l3), (4, .inl l4)]) [] σ (M_keep_r r0) := by
  unfold M_keep_b46 at h
  refine q_ex_br 3 (c := 4 ≤ l4) (pc1 := 120) (pc2 := 52) (L' := (q_L [(0, .inr (.inr (some (24, 0)))), (1, .inl l1), (2, .inl l2), (3, .inl l3), (4, .inl l4)])) (st' := []) (σ' := σ) (fun _ => rfl) (fun hc => ?_) (fun hc => ?_)
  · rw [if_pos hc] at h
    refine q_ex_go 2 (pc' := 123) (L' := (q_s1 (q_L [(0, .inr (.inr (some (24, 0)))), (1, .inl l1), (2, .inl l2), (3, .inl l3), (4, .inl l4)]) 4 (.inl 0))) (st' := []) (σ' := σ) (fun _ => rfl) ?_
    exact q_ex_ll (M_keep_L123_e f h) ⟨rfl, rfl, rfl, rfl, rfl, trivial⟩
  · rw [if_neg hc] at h
    refine q_by h (fun hz h => ?_)
    refine q_ex_gb 15 (pc' := 73) (L' := (q_L [(0, .inr (.inr (some (24, 0)))), (1, .inl l1), (2, .inl l2), (3, .inl l3), (4, .inl l4)])) (st' := [.inl (σ.2.1 52 0 ((4 * l2) + l4).toNatClampNeg), .inl ((4 * l1) + l4), .inr (.inr (some (47, 0)))]) (σ' := σ) (fun _ => rfl) hz ?_
    refine q_by h (fun hz h => ?_)
    refine q_ex_gb 1 (pc' := 74) (L' := (q_L [(0, .inr (.inr (some (24, 0)))), (1, .inl l1), (2, .inl l2), (3, .inl l3), (4, .inl l4)])) (st' := []) (σ' := (q_sA σ 47 0 (upd (σ.2.1 47 0) (((4 * l1) + l4).toNatClampNeg) (σ.2.1 52 0 ((4 * l2) + l4).toNatClampNeg)))) (fun _ => rfl) hz ?_
    refine q_nm (G := fun τ => q_ex q_pr n _ 100 74 (q_L [(0, .inr (.inr (some (24, 0)))), (1, .inl l1), (2, .inl l2), (3, .inl l3), (4, .inl l4)]) [] τ _) h (fun σ3 h => ?_)
    refine q_by h (fun hz h => ?_)
    refine q_ex_gb 15 (pc' := 95) (L' := (q_L [(0, .inr (.inr (some (24, 0)))), (1, .inl l1), (2, .inl l2), (3, .inl l3), (4, .inl l4)])) (st' := [.inl (σ3.2.1 52 0 ((4 * l2) + l4).toNatClampNeg), .inl ((4 * l1) + l4), .inr (.inr (some (48, 0)))]) (σ' := σ3) (fun _ => rfl) hz ?_
    refine q_ex_br 1 (c := 0 ≤ (σ3.2.1 52 0 ((4 * l2) + l4).toNatClampNeg)) (pc1 := 102) (pc2 := 98) (L' := (q_L [(0, .inr (.inr (some (24, 0)))), (1, .inl l1), (2, .inl l2), (3, .inl l3), (4, .inl l4)])) (st' := [.inl ((4 * l1) + l4), .inr (.inr (some (48, 0)))]) (σ' := σ3) (fun _ => rfl) (fun hc => ?_) (fun hc => ?_)
    · rw [if_pos hc] at h
      refine q_by h (fun hz h => ?_)
      refine q_ex_gb 8 (pc' := 113) (L' := (q_L [(0, .inr (.inr (some (24, 0)))), (1, .inl l1), (2, .inl l2), (3, .inl l3), (4, .inl l4)])) (st' := [.inr (.inl (σ3.2.2.1 53 0 ((4 * l2) + l4).toNatClampNeg)), .inl ((4 * l1) + l4), .inr (.inr (some (48, 0)))]) (σ' := σ3) (fun _ => rfl) hz ?_
      exact q_ex_ll (M_keep_b113_e hk46 h) ⟨rfl, rfl, rfl, rfl, rfl, trivial⟩
    · rw [if_neg hc] at h
      refine q_ex_go 2 (pc' := 113) (L' := (q_L [(0, .inr (.inr (some (24, 0)))), (1, .inl l1), (2, .inl l2), (3, .inl l3), (4, .inl l4)])) (st' := [.inr (.inl 0), .inl ((4 * l1) + l4), .inr (.inr (some (48, 0)))]) (σ' := σ3) (fun _ => rfl) ?_
      exact q_ex_ll (M_keep_b113_e hk46 h) ⟨rfl, rfl, rfl, rfl, rfl, trivial⟩
theorem M_keep_L46_e {n : Nat} {r0 : J} (f : Nat) : ∀ {l1 : Int32} {l2 : Int32} {l3 : Int32} {l4 : Int32} {σ : J}, M_keep_L46 n f l1 l2 l3 l4 σ = some r0 → q_ex q_pr n 1 100 46 (q_L [(0, .inr (.inr (some (24, 0)))), (1, .inl l1), (2, .inl l2), (3, .inl l3), (4, .inl l4)]) [] σ (M_keep_r r0) := by
  induction f with
  | zero => intro l1 l2 l3 l4 σ h; cases h
  | succ f ih =>
    intro l1 l2 l3 l4 σ h
    exact M_keep_b46_e (f := f)  (fun h => ih h) h
theorem M_keep_b8_e {n : Nat} {r0 : J} {k8 : Int32 → Int32 → Int32 → Int32 → J → Option (J)} {f : Nat} {l1 : Int32} {l2 : Int32} {l3 : Int32} {l4 : Int32} {σ : J} (hk8 : ∀ {l1 : Int32} {l2 : Int32} {l3 : Int32} {l4 : Int32} {σ : J}, k8 l1 l2 l3 l4 σ = some r0 → q_ex q_pr n 1 100 8 (q_L [(0, .inr (.inr (some (24, 0)))), (1, .inl l1), (2, .inl l2), (3, .inl l3), (4, .inl l4)]) [] σ (M_keep_r r0)) (h : M_keep_b8 n k8 f l1 l2 l3 l4 σ = some r0) : q_ex q_pr n 1 100 8 (q_L [(0, .inr (.inr (some (24, 0)))), (1, .inl l1), (2, .inl l2), (3, .inl l3), (4, .inl l4)]) [] σ (M_keep_r r0) := by
  unfold M_keep_b8 at h
  refine q_ex_br 3 (c := l2 ≤ l4) (pc1 := 43) (pc2 := 14) (L' := (q_L [(0, .inr (.inr (some (24, 0)))), (1, .inl l1), (2, .inl l2), (3, .inl l3), (4, .inl l4)])) (st' := []) (σ' := σ) (fun _ => rfl) (fun hc => ?_) (fun hc => ?_)
  · rw [if_pos hc] at h
    refine q_ex_go 2 (pc' := 46) (L' := (q_s1 (q_L [(0, .inr (.inr (some (24, 0)))), (1, .inl l1), (2, .inl l2), (3, .inl l3), (4, .inl l4)]) 4 (.inl 0))) (st' := []) (σ' := σ) (fun _ => rfl) ?_
    exact q_ex_ll (M_keep_L46_e f h) ⟨rfl, rfl, rfl, rfl, rfl, trivial⟩
  · rw [if_neg hc] at h
    refine q_by h (fun hz h => ?_)
    refine q_ex_gb 13 (pc' := 35) (L' := (q_L [(0, .inr (.inr (some (24, 0)))), (1, .inl l1), (2, .inl l2), (3, .inl l3), (4, .inl l4)])) (st' := [.inl (σ.2.1 54 0 l4.toNatClampNeg), .inr (.inr (some (25, 0))), .inl ((3 * l1) + l4), .inr (.inr (some (46, 0)))]) (σ' := σ) (fun _ => rfl) hz ?_
    refine q_by h (fun hz h => ?_)
    refine q_ex_gb 1 (pc' := 36) (L' := (q_L [(0, .inr (.inr (some (24, 0)))), (1, .inl l1), (2, .inl l2), (3, .inl l3), (4, .inl l4)])) (st' := [.inl (σ.2.1 25 0 (σ.2.1 54 0 l4.toNatClampNeg).toNatClampNeg), .inl ((3 * l1) + l4), .inr (.inr (some (46, 0)))]) (σ' := σ) (fun _ => rfl) hz ?_
    refine q_by h (fun hz h => ?_)
    refine q_ex_gb 1 (pc' := 37) (L' := (q_L [(0, .inr (.inr (some (24, 0)))), (1, .inl l1), (2, .inl l2), (3, .inl l3), (4, .inl l4)])) (st' := []) (σ' := (q_sA σ 46 0 (upd (σ.2.1 46 0) (((3 * l1) + l4).toNatClampNeg) (σ.2.1 25 0 (σ.2.1 54 0 l4.toNatClampNeg).toNatClampNeg)))) (fun _ => rfl) hz ?_
    refine q_nm (G := fun τ => q_ex q_pr n _ 100 37 (q_L [(0, .inr (.inr (some (24, 0)))), (1, .inl l1), (2, .inl l2), (3, .inl l3), (4, .inl l4)]) [] τ _) h (fun σ2 h => ?_)
    refine q_ex_go 2 (pc' := 8) (L' := (q_s1 (q_L [(0, .inr (.inr (some (24, 0)))), (1, .inl l1), (2, .inl l2), (3, .inl l3), (4, .inl l4)]) 4 (.inl (l4 + 1)))) (st' := []) (σ' := σ2) (fun _ => rfl) ?_
    exact q_ex_ll (hk8 h) ⟨rfl, rfl, rfl, rfl, rfl, trivial⟩
theorem M_keep_L8_e {n : Nat} {r0 : J} (f : Nat) : ∀ {l1 : Int32} {l2 : Int32} {l3 : Int32} {l4 : Int32} {σ : J}, M_keep_L8 n f l1 l2 l3 l4 σ = some r0 → q_ex q_pr n 1 100 8 (q_L [(0, .inr (.inr (some (24, 0)))), (1, .inl l1), (2, .inl l2), (3, .inl l3), (4, .inl l4)]) [] σ (M_keep_r r0) := by
  induction f with
  | zero => intro l1 l2 l3 l4 σ h; cases h
  | succ f ih =>
    intro l1 l2 l3 l4 σ h
    exact M_keep_b8_e (f := f)  (fun h => ih h) h
theorem M_keep_b0_e {n : Nat} {r0 : J} {f : Nat} {l1 : Int32} {l2 : Int32} {l3 : Int32} {σ : J} (h : M_keep_b0 n f l1 l2 l3 σ = some r0) : q_ex q_pr n 1 100 0 (q_L [(0, .inr (.inr (some (24, 0)))), (1, .inl l1), (2, .inl l2), (3, .inl l3)]) [] σ (M_keep_r r0) := by
  unfold M_keep_b0 at h
  obtain ⟨q1, hq1, h⟩ := Option.bind_eq_some_iff.mp h
  refine q_ex_ca 3 (k1 := 83) (vs := [.inr (.inr (some (24, 0))), .inl l1]) (pc' := 5) (L' := (q_L [(0, .inr (.inr (some (24, 0)))), (1, .inl l1), (2, .inl l2), (3, .inl l3)])) (rest := []) (σ' := σ) (fun _ => rfl) (q_ex_dd (M_clear_e hq1) (Nat.le_of_ble_eq_true rfl)) rfl ?_
  refine q_ex_go 2 (pc' := 8) (L' := (q_s1 (q_L [(0, .inr (.inr (some (24, 0)))), (1, .inl l1), (2, .inl l2), (3, .inl l3)]) 4 (.inl 0))) (st' := []) (σ' := q1) (fun _ => rfl) ?_
  exact q_ex_ll (M_keep_L8_e f h) ⟨rfl, rfl, rfl, rfl, rfl, trivial⟩
theorem M_keep_e {n : Nat} {r0 : J} {f : Nat} {x1 : Int32} {x2 : Int32} {x3 : Int32} {σ : J} (h : M_keep n f x1 x2 x3 σ = some r0) : q_ex q_pr n 1 100 0 (q_args 0 [.inr (.inr (some (24, 0))), .inl x1, .inl x2, .inl x3]) [] σ (M_keep_r r0) := q_ex_ll (M_keep_b0_e h) ⟨rfl, rfl, rfl, rfl, trivial⟩
def M_serve_r : J → Res := fun σ => (.inl none, σ)
-- 115: M_serve
def M_serve_b77 (n : Nat) (k2 : Int32 → J → Option (J)) (f : Nat) (l1 : Int32) (σ : J) : Option (J) := k2 l1 σ
def M_serve_b68 (n : Nat) (k2 : Int32 → J → Option (J)) (f : Nat) (l1 : Int32) (s1 : Int32) (s2 : Int32) (s3 : Int32) (σ : J) : Option (J) := (M_keep n f s1 s2 s3 σ).bind fun q4 => M_serve_b77 n k2 f l1 q4
def M_serve_b2 (n : Nat) (k2 : Int32 → J → Option (J)) (f : Nat) (l1 : Int32) (σ : J) : Option (J) := if (σ.1 24 22 0) ≤ l1 then some σ else if q_in l1 4 = true then if q_in (σ.2.1 42 0 l1.toNatClampNeg) 4 = true then (M_search n f (σ.2.1 42 0 l1.toNatClampNeg) (σ.2.1 43 0 (σ.2.1 42 0 l1.toNatClampNeg).toNatClampNeg) σ).bind fun q1 => if q1.1 = 0 then M_serve_b77 n k2 f (l1 + 1) q1.2 else (M_leave n f (σ.2.1 42 0 l1.toNatClampNeg) q1.2).bind fun q2 => if q_in (σ.2.1 42 0 l1.toNatClampNeg) 4 = true then q_bs (q_sA q2 45 0 (upd (q2.2.1 45 0) ((σ.2.1 42 0 l1.toNatClampNeg).toNatClampNeg) 2)) fun σ3 => if q_in (σ.2.1 42 0 l1.toNatClampNeg) 4 = true then if q_in (σ.2.1 42 0 l1.toNatClampNeg) 4 = true then if ((σ3.2.1 44 0 (σ.2.1 42 0 l1.toNatClampNeg).toNatClampNeg) &&& 1) = 1 then M_serve_b68 n k2 f l1 (σ.2.1 42 0 l1.toNatClampNeg) (σ3.2.1 43 0 (σ.2.1 42 0 l1.toNatClampNeg).toNatClampNeg) 1 σ3 else M_serve_b68 n k2 f l1 (σ.2.1 42 0 l1.toNatClampNeg) (σ3.2.1 43 0 (σ.2.1 42 0 l1.toNatClampNeg).toNatClampNeg) 0 σ3 else none else none else none else none else none
def M_serve_L2 (n : Nat) : Nat → Int32 → J → Option (J)
  | 0 => fun _ _ => none
  | f + 1 => fun l1 σ => M_serve_b2 n (M_serve_L2 n f) f l1 σ
def M_serve_b0 (n : Nat) (f : Nat) (σ : J) : Option (J) := M_serve_L2 n f 0 σ
def M_serve (n : Nat) (f : Nat) (σ : J) : Option (J) := M_serve_b0 n f σ
theorem M_serve_b77_e {n : Nat} {r0 : J} {k2 : Int32 → J → Option (J)} {f : Nat} {l1 : Int32} {σ : J} (hk2 : ∀ {l1 : Int32} {σ : J}, k2 l1 σ = some r0 → q_ex q_pr n 5 115 2 (q_L [(0, .inr (.inr (some (24, 0)))), (1, .inl l1)]) [] σ (M_serve_r r0)) (h : M_serve_b77 n k2 f l1 σ = some r0) : q_ex q_pr n 5 115 77 (q_L [(0, .inr (.inr (some (24, 0)))), (1, .inl l1)]) [] σ (M_serve_r r0) := by
  unfold M_serve_b77 at h
  refine q_ex_go 1 (pc' := 2) (L' := (q_L [(0, .inr (.inr (some (24, 0)))), (1, .inl l1)])) (st' := []) (σ' := σ) (fun _ => rfl) ?_
  exact q_ex_ll (hk2 h) ⟨rfl, rfl, trivial⟩
theorem M_serve_b68_e {n : Nat} {r0 : J} {k2 : Int32 → J → Option (J)} {f : Nat} {l1 : Int32} {s1 : Int32} {s2 : Int32} {s3 : Int32} {σ : J} (hk2 : ∀ {l1 : Int32} {σ : J}, k2 l1 σ = some r0 → q_ex q_pr n 5 115 2 (q_L [(0, .inr (.inr (some (24, 0)))), (1, .inl l1)]) [] σ (M_serve_r r0)) (h : M_serve_b68 n k2 f l1 s1 s2 s3 σ = some r0) : q_ex q_pr n 5 115 68 (q_L [(0, .inr (.inr (some (24, 0)))), (1, .inl l1)]) [.inl s3, .inl s2, .inl s1, .inr (.inr (some (24, 0)))] σ (M_serve_r r0) := by
  unfold M_serve_b68 at h
  obtain ⟨q4, hq4, h⟩ := Option.bind_eq_some_iff.mp h
  refine q_ex_ca 1 (k1 := 100) (vs := [.inr (.inr (some (24, 0))), .inl s1, .inl s2, .inl s3]) (pc' := 71) (L' := (q_L [(0, .inr (.inr (some (24, 0)))), (1, .inl l1)])) (rest := []) (σ' := σ) (fun _ => rfl) (q_ex_dd (M_keep_e hq4) (Nat.le_of_ble_eq_true rfl)) rfl ?_
  refine q_ex_go 1 (pc' := 77) (L' := (q_L [(0, .inr (.inr (some (24, 0)))), (1, .inl l1)])) (st' := []) (σ' := q4) (fun _ => rfl) ?_
  exact q_ex_ll (M_serve_b77_e hk2 h) ⟨rfl, rfl, trivial⟩
theorem M_serve_b2_e {n : Nat} {r0 : J} {k2 : Int32 → J → Option (J)} {f : Nat} {l1 : Int32} {σ : J} (hk2 : ∀ {l1 : Int32} {σ : J}, k2 l1 σ = some r0 → q_ex q_pr n 5 115 2 (q_L [(0, .inr (.inr (some (24, 0)))), (1, .inl l1)]) [] σ (M_serve_r r0)) (h : M_serve_b2 n k2 f l1 σ = some r0) : q_ex q_pr n 5 115 2 (q_L [(0, .inr (.inr (some (24, 0)))), (1, .inl l1)]) [] σ (M_serve_r r0) := by
  unfold M_serve_b2 at h
  refine q_ex_br 4 (c := (σ.1 24 22 0) ≤ l1) (pc1 := 80) (pc2 := 10) (L' := (q_L [(0, .inr (.inr (some (24, 0)))), (1, .inl l1)])) (st' := []) (σ' := σ) (fun _ => rfl) (fun hc => ?_) (fun hc => ?_)
  · rw [if_pos hc] at h
    cases h
    exact ⟨1, rfl⟩
  · rw [if_neg hc] at h
    refine q_by h (fun hz h => ?_)
    refine q_ex_gb 4 (pc' := 16) (L' := (q_L [(0, .inr (.inr (some (24, 0)))), (1, .inl l1)])) (st' := [.inl (σ.2.1 42 0 l1.toNatClampNeg)]) (σ' := σ) (fun _ => rfl) hz ?_
    refine q_by h (fun hz h => ?_)
    refine q_ex_gb 7 (pc' := 25) (L' := (q_s1 (q_L [(0, .inr (.inr (some (24, 0)))), (1, .inl l1)]) 2 (.inl (σ.2.1 42 0 l1.toNatClampNeg)))) (st' := [.inl (σ.2.1 43 0 (σ.2.1 42 0 l1.toNatClampNeg).toNatClampNeg), .inl (σ.2.1 42 0 l1.toNatClampNeg), .inr (.inr (some (24, 0)))]) (σ' := σ) (fun _ => rfl) hz ?_
    obtain ⟨q1, hq1, h⟩ := Option.bind_eq_some_iff.mp h
    refine q_ex_ca 1 (k1 := 112) (vs := [.inr (.inr (some (24, 0))), .inl (σ.2.1 42 0 l1.toNatClampNeg), .inl (σ.2.1 43 0 (σ.2.1 42 0 l1.toNatClampNeg).toNatClampNeg)]) (pc' := 28) (L' := (q_s1 (q_L [(0, .inr (.inr (some (24, 0)))), (1, .inl l1)]) 2 (.inl (σ.2.1 42 0 l1.toNatClampNeg)))) (rest := []) (σ' := σ) (fun _ => rfl) (q_ex_dd (M_search_e hq1) (Nat.le_of_ble_eq_true rfl)) rfl ?_
    refine q_ex_br 1 (c := q1.1 = 0) (pc1 := 74) (pc2 := 31) (L' := (q_s1 (q_L [(0, .inr (.inr (some (24, 0)))), (1, .inl l1)]) 2 (.inl (σ.2.1 42 0 l1.toNatClampNeg)))) (st' := []) (σ' := q1.2) (fun _ => rfl) (fun hc => ?_) (fun hc => ?_)
    · rw [if_pos hc] at h
      refine q_ex_go 1 (pc' := 77) (L' := (q_s1 (q_s1 (q_L [(0, .inr (.inr (some (24, 0)))), (1, .inl l1)]) 2 (.inl (σ.2.1 42 0 l1.toNatClampNeg))) 1 (.inl (l1 + 1)))) (st' := []) (σ' := q1.2) (fun _ => rfl) ?_
      exact q_ex_ll (M_serve_b77_e hk2 h) ⟨rfl, rfl, trivial⟩
    · rw [if_neg hc] at h
      obtain ⟨q2, hq2, h⟩ := Option.bind_eq_some_iff.mp h
      refine q_ex_ca 3 (k1 := 101) (vs := [.inr (.inr (some (24, 0))), .inl (σ.2.1 42 0 l1.toNatClampNeg)]) (pc' := 36) (L' := (q_s1 (q_L [(0, .inr (.inr (some (24, 0)))), (1, .inl l1)]) 2 (.inl (σ.2.1 42 0 l1.toNatClampNeg)))) (rest := []) (σ' := q1.2) (fun _ => rfl) (q_ex_dd (M_leave_e hq2) (Nat.le_of_ble_eq_true rfl)) rfl ?_
      refine q_by h (fun hz h => ?_)
      refine q_ex_gb 5 (pc' := 43) (L' := (q_s1 (q_L [(0, .inr (.inr (some (24, 0)))), (1, .inl l1)]) 2 (.inl (σ.2.1 42 0 l1.toNatClampNeg)))) (st' := []) (σ' := (q_sA q2 45 0 (upd (q2.2.1 45 0) ((σ.2.1 42 0 l1.toNatClampNeg).toNatClampNeg) 2))) (fun _ => rfl) hz ?_
      refine q_nm (G := fun τ => q_ex q_pr n _ 115 43 (q_s1 (q_L [(0, .inr (.inr (some (24, 0)))), (1, .inl l1)]) 2 (.inl (σ.2.1 42 0 l1.toNatClampNeg))) [] τ _) h (fun σ3 h => ?_)
      refine q_by h (fun hz h => ?_)
      refine q_ex_gb 6 (pc' := 51) (L' := (q_s1 (q_L [(0, .inr (.inr (some (24, 0)))), (1, .inl l1)]) 2 (.inl (σ.2.1 42 0 l1.toNatClampNeg)))) (st' := [.inl (σ3.2.1 43 0 (σ.2.1 42 0 l1.toNatClampNeg).toNatClampNeg), .inl (σ.2.1 42 0 l1.toNatClampNeg), .inr (.inr (some (24, 0)))]) (σ' := σ3) (fun _ => rfl) hz ?_
      refine q_by h (fun hz h => ?_)
      refine q_ex_gb 4 (pc' := 57) (L' := (q_s1 (q_L [(0, .inr (.inr (some (24, 0)))), (1, .inl l1)]) 2 (.inl (σ.2.1 42 0 l1.toNatClampNeg)))) (st' := [.inl (σ3.2.1 44 0 (σ.2.1 42 0 l1.toNatClampNeg).toNatClampNeg), .inl (σ3.2.1 43 0 (σ.2.1 42 0 l1.toNatClampNeg).toNatClampNeg), .inl (σ.2.1 42 0 l1.toNatClampNeg), .inr (.inr (some (24, 0)))]) (σ' := σ3) (fun _ => rfl) hz ?_
      refine q_ex_br 4 (c := ((σ3.2.1 44 0 (σ.2.1 42 0 l1.toNatClampNeg).toNatClampNeg) &&& 1) = 1) (pc1 := 63) (pc2 := 67) (L' := (q_s1 (q_L [(0, .inr (.inr (some (24, 0)))), (1, .inl l1)]) 2 (.inl (σ.2.1 42 0 l1.toNatClampNeg)))) (st' := [.inl (σ3.2.1 43 0 (σ.2.1 42 0 l1.toNatClampNeg).toNatClampNeg), .inl (σ.2.1 42 0 l1.toNatClampNeg), .inr (.inr (some (24, 0)))]) (σ' := σ3) (fun _ => rfl) (fun hc => ?_) (fun hc => ?_)
      · rw [if_pos hc] at h
        refine q_ex_go 2 (pc' := 68) (L' := (q_s1 (q_L [(0, .inr (.inr (some (24, 0)))), (1, .inl l1)]) 2 (.inl (σ.2.1 42 0 l1.toNatClampNeg)))) (st' := [.inl 1, .inl (σ3.2.1 43 0 (σ.2.1 42 0 l1.toNatClampNeg).toNatClampNeg), .inl (σ.2.1 42 0 l1.toNatClampNeg), .inr (.inr (some (24, 0)))]) (σ' := σ3) (fun _ => rfl) ?_
        exact q_ex_ll (M_serve_b68_e hk2 h) ⟨rfl, rfl, trivial⟩
      · rw [if_neg hc] at h
        refine q_ex_go 1 (pc' := 68) (L' := (q_s1 (q_L [(0, .inr (.inr (some (24, 0)))), (1, .inl l1)]) 2 (.inl (σ.2.1 42 0 l1.toNatClampNeg)))) (st' := [.inl 0, .inl (σ3.2.1 43 0 (σ.2.1 42 0 l1.toNatClampNeg).toNatClampNeg), .inl (σ.2.1 42 0 l1.toNatClampNeg), .inr (.inr (some (24, 0)))]) (σ' := σ3) (fun _ => rfl) ?_
        exact q_ex_ll (M_serve_b68_e hk2 h) ⟨rfl, rfl, trivial⟩
theorem M_serve_L2_e {n : Nat} {r0 : J} (f : Nat) : ∀ {l1 : Int32} {σ : J}, M_serve_L2 n f l1 σ = some r0 → q_ex q_pr n 5 115 2 (q_L [(0, .inr (.inr (some (24, 0)))), (1, .inl l1)]) [] σ (M_serve_r r0) := by
  induction f with
  | zero => intro l1 σ h; cases h
  | succ f ih =>
    intro l1 σ h
    exact M_serve_b2_e (f := f)  (fun h => ih h) h
theorem M_serve_b0_e {n : Nat} {r0 : J} {f : Nat} {σ : J} (h : M_serve_b0 n f σ = some r0) : q_ex q_pr n 5 115 0 (q_L [(0, .inr (.inr (some (24, 0))))]) [] σ (M_serve_r r0) := by
  unfold M_serve_b0 at h
  refine q_ex_go 2 (pc' := 2) (L' := (q_s1 (q_L [(0, .inr (.inr (some (24, 0))))]) 1 (.inl 0))) (st' := []) (σ' := σ) (fun _ => rfl) ?_
  exact q_ex_ll (M_serve_L2_e f h) ⟨rfl, rfl, trivial⟩
theorem M_serve_e {n : Nat} {r0 : J} {f : Nat} {σ : J} (h : M_serve n f σ = some r0) : q_ex q_pr n 5 115 0 (q_args 0 [.inr (.inr (some (24, 0)))]) [] σ (M_serve_r r0) := q_ex_ll (M_serve_b0_e h) ⟨rfl, trivial⟩
def M_abandon_r : (Int32) × J → Res := fun q => (.inl (some (.inl q.1)), q.2)
-- 79: M_abandon
def M_abandon_b38 (n : Nat) (f : Nat) (s0 : Int32) (σ : J) : Option ((Int32) × J) := some (s0, σ)
def M_abandon_b26 (n : Nat) (f : Nat) (σ : J) : Option ((Int32) × J) := if (σ.1 24 0 0) ≤ 0 then M_abandon_b38 n f (-1) σ else M_abandon_b38 n f 0 σ
def M_abandon_b55 (n : Nat) (f : Nat) (l2 : Int32) (σ : J) : Option ((Int32) × J) := if 100 = 0 then none else some (l2 - l2 / 100 * 100, σ)
def M_abandon_b0 (n : Nat) (f : Nat) (l1 : Int32) (σ : J) : Option ((Int32) × J) := (M_first n f l1 1 σ).bind fun q1 => q_bs (q_sI q1.2 24 0 0 q1.1) fun σ2 => if 0 < (σ2.1 24 0 0) then M_abandon_b26 n f σ2 else if q_in l1 4 = true then if (σ2.2.1 34 0 l1.toNatClampNeg) = 0 then M_abandon_b26 n f σ2 else (M_drop n f l1 σ2).bind fun q3 => if q3.1 < 100 then M_abandon_b55 n f q3.1 q3.2 else (M_serve n f q3.2).bind fun q4 => M_abandon_b55 n f q3.1 q4 else none
def M_abandon (n : Nat) (f : Nat) (x1 : Int32) (σ : J) : Option ((Int32) × J) := M_abandon_b0 n f x1 σ
theorem M_abandon_b38_e {n : Nat} {r0 : (Int32) × J} {f : Nat} {s0 : Int32} {σ : J} (h : M_abandon_b38 n f s0 σ = some r0) : q_ex q_pr n 6 79 38 (q_L []) [.inl s0] σ (M_abandon_r r0) := by
  unfold M_abandon_b38 at h
  cases h
  exact ⟨1, rfl⟩
theorem M_abandon_b26_e {n : Nat} {r0 : (Int32) × J} {f : Nat} {σ : J} (h : M_abandon_b26 n f σ = some r0) : q_ex q_pr n 6 79 26 (q_L [(0, .inr (.inr (some (24, 0))))]) [] σ (M_abandon_r r0) := by
  unfold M_abandon_b26 at h
  refine q_ex_br 3 (c := (σ.1 24 0 0) ≤ 0) (pc1 := 37) (pc2 := 33) (L' := (q_L [(0, .inr (.inr (some (24, 0))))])) (st' := []) (σ' := σ) (fun _ => rfl) (fun hc => ?_) (fun hc => ?_)
  · rw [if_pos hc] at h
    refine q_ex_go 1 (pc' := 38) (L' := (q_L [(0, .inr (.inr (some (24, 0))))])) (st' := [.inl (-1)]) (σ' := σ) (fun _ => rfl) ?_
    exact q_ex_ll (M_abandon_b38_e h) trivial
  · rw [if_neg hc] at h
    refine q_ex_go 2 (pc' := 38) (L' := (q_L [(0, .inr (.inr (some (24, 0))))])) (st' := [.inl 0]) (σ' := σ) (fun _ => rfl) ?_
    exact q_ex_ll (M_abandon_b38_e h) trivial
theorem M_abandon_b55_e {n : Nat} {r0 : (Int32) × J} {f : Nat} {l2 : Int32} {σ : J} (h : M_abandon_b55 n f l2 σ = some r0) : q_ex q_pr n 6 79 55 (q_L [(2, .inl l2)]) [] σ (M_abandon_r r0) := by
  unfold M_abandon_b55 at h
  refine q_byn h (fun hz h => ?_)
  refine q_ex_gn 3 (pc' := 59) (L' := (q_L [(2, .inl l2)])) (st' := [.inl (l2 - l2 / 100 * 100)]) (σ' := σ) (fun _ => rfl) hz ?_
  cases h
  exact ⟨1, rfl⟩
theorem M_abandon_b0_e {n : Nat} {r0 : (Int32) × J} {f : Nat} {l1 : Int32} {σ : J} (h : M_abandon_b0 n f l1 σ = some r0) : q_ex q_pr n 6 79 0 (q_L [(0, .inr (.inr (some (24, 0)))), (1, .inl l1)]) [] σ (M_abandon_r r0) := by
  unfold M_abandon_b0 at h
  obtain ⟨q1, hq1, h⟩ := Option.bind_eq_some_iff.mp h
  refine q_ex_ca 5 (k1 := 90) (vs := [.inr (.inr (some (24, 0))), .inl l1, .inl 1]) (pc' := 7) (L' := (q_L [(0, .inr (.inr (some (24, 0)))), (1, .inl l1)])) (rest := [.inr (.inr (some (24, 0)))]) (σ' := σ) (fun _ => rfl) (q_ex_dd (M_first_e hq1) (Nat.le_of_ble_eq_true rfl)) rfl ?_
  refine q_ex_go 1 (pc' := 10) (L' := (q_L [(0, .inr (.inr (some (24, 0)))), (1, .inl l1)])) (st' := []) (σ' := (q_sI q1.2 24 0 0 q1.1)) (fun _ => rfl) ?_
  refine q_nm (G := fun τ => q_ex q_pr n _ 79 10 (q_L [(0, .inr (.inr (some (24, 0)))), (1, .inl l1)]) [] τ _) h (fun σ2 h => ?_)
  refine q_ex_br 3 (c := 0 < (σ2.1 24 0 0)) (pc1 := 26) (pc2 := 17) (L' := (q_L [(0, .inr (.inr (some (24, 0)))), (1, .inl l1)])) (st' := []) (σ' := σ2) (fun _ => rfl) (fun hc => ?_) (fun hc => ?_)
  · rw [if_pos hc] at h
    exact q_ex_ll (M_abandon_b26_e h) ⟨rfl, trivial⟩
  · rw [if_neg hc] at h
    refine q_by h (fun hz h => ?_)
    refine q_ex_gb 4 (pc' := 23) (L' := (q_L [(0, .inr (.inr (some (24, 0)))), (1, .inl l1)])) (st' := [.inl (σ2.2.1 34 0 l1.toNatClampNeg)]) (σ' := σ2) (fun _ => rfl) hz ?_
    refine q_ex_br 1 (c := (σ2.2.1 34 0 l1.toNatClampNeg) = 0) (pc1 := 26) (pc2 := 39) (L' := (q_L [(0, .inr (.inr (some (24, 0)))), (1, .inl l1)])) (st' := []) (σ' := σ2) (fun _ => rfl) (fun hc => ?_) (fun hc => ?_)
    · rw [if_pos hc] at h
      exact q_ex_ll (M_abandon_b26_e h) ⟨rfl, trivial⟩
    · rw [if_neg hc] at h
      obtain ⟨q3, hq3, h⟩ := Option.bind_eq_some_iff.mp h
      refine q_ex_ca 3 (k1 := 86) (vs := [.inr (.inr (some (24, 0))), .inl l1]) (pc' := 44) (L' := (q_L [(0, .inr (.inr (some (24, 0)))), (1, .inl l1)])) (rest := []) (σ' := σ2) (fun _ => rfl) (q_ex_dd (M_drop_e hq3) (Nat.le_of_ble_eq_true rfl)) rfl ?_
      refine q_ex_br 4 (c := q3.1 < 100) (pc1 := 55) (pc2 := 51) (L' := (q_s1 (q_L [(0, .inr (.inr (some (24, 0)))), (1, .inl l1)]) 2 (.inl q3.1))) (st' := []) (σ' := q3.2) (fun _ => rfl) (fun hc => ?_) (fun hc => ?_)
      · rw [if_pos hc] at h
        exact q_ex_ll (M_abandon_b55_e h) ⟨rfl, trivial⟩
      · rw [if_neg hc] at h
        obtain ⟨q4, hq4, h⟩ := Option.bind_eq_some_iff.mp h
        refine q_ex_ca 2 (k1 := 115) (vs := [.inr (.inr (some (24, 0)))]) (pc' := 55) (L' := (q_s1 (q_L [(0, .inr (.inr (some (24, 0)))), (1, .inl l1)]) 2 (.inl q3.1))) (rest := []) (σ' := q3.2) (fun _ => rfl) (q_ex_dd (M_serve_e hq4) (Nat.le_of_ble_eq_true rfl)) rfl ?_
        exact q_ex_ll (M_abandon_b55_e h) ⟨rfl, trivial⟩
theorem M_abandon_e {n : Nat} {r0 : (Int32) × J} {f : Nat} {x1 : Int32} {σ : J} (h : M_abandon n f x1 σ = some r0) : q_ex q_pr n 6 79 0 (q_args 0 [.inr (.inr (some (24, 0))), .inl x1]) [] σ (M_abandon_r r0) := q_ex_ll (M_abandon_b0_e h) ⟨rfl, rfl, trivial⟩
def M_about_r : (Int64) × J → Res := fun q => (.inl (some (.inr (.inl q.1))), q.2)
-- 80: M_about
def M_about_b42 (n : Nat) (f : Nat) (σ : J) : Option ((Int64) × J) := some ((-1), σ)
def M_about_b140 (n : Nat) (f : Nat) (s0 : Int64) (σ : J) : Option ((Int64) × J) := some (s0, σ)
def M_about_b46 (n : Nat) (f : Nat) (l2 : Int32) (l3 : Int32) (σ : J) : Option ((Int64) × J) := if l2 = 0 then if q_in l3 20 = true then M_about_b140 n f ((σ.2.1 26 0 l3.toNatClampNeg).toInt64) σ else none else if l2 = 1 then if q_in l3 20 = true then M_about_b140 n f ((σ.2.1 27 0 l3.toNatClampNeg).toInt64) σ else none else if l2 = 2 then if q_in l3 20 = true then M_about_b140 n f ((σ.2.1 28 0 l3.toNatClampNeg).toInt64) σ else none else if l2 = 3 then if q_in l3 20 = true then M_about_b140 n f ((σ.2.1 30 0 l3.toNatClampNeg).toInt64) σ else none else if 8 ≤ l2 then if q_in (((4 * l3) + l2) - 8) 80 = true then M_about_b140 n f (σ.2.2.1 33 0 (((4 * l3) + l2) - 8).toNatClampNeg) σ else none else if q_in (((4 * l3) + l2) - 4) 80 = true then M_about_b140 n f ((σ.2.1 32 0 (((4 * l3) + l2) - 4).toNatClampNeg).toInt64) σ else none
def M_about_b0 (n : Nat) (f : Nat) (l1 : Int32) (l2 : Int32) (σ : J) : Option ((Int64) × J) := q_bs (q_sI σ 24 0 0 0) fun σ1 => (M_place n f l1 σ1).bind fun q2 => if q2.1 < 0 then M_about_b42 n f q2.2 else if l2 < 0 then M_about_b42 n f q2.2 else if 11 < l2 then M_about_b42 n f q2.2 else if l2 ≤ 3 then M_about_b46 n f l2 q2.1 q2.2 else if 4 = 0 then none else if q_in q2.1 20 = true then if (l2 - l2 / 4 * 4) < (q2.2.2.1 26 0 q2.1.toNatClampNeg) then M_about_b46 n f l2 q2.1 q2.2 else M_about_b42 n f q2.2 else none
def M_about (n : Nat) (f : Nat) (x1 : Int32) (x2 : Int32) (σ : J) : Option ((Int64) × J) := M_about_b0 n f x1 x2 σ
theorem M_about_b42_e {n : Nat} {r0 : (Int64) × J} {f : Nat} {σ : J} (h : M_about_b42 n f σ = some r0) : q_ex q_pr n 1 80 42 (q_L []) [] σ (M_about_r r0) := by
  unfold M_about_b42 at h
  refine q_ex_go 1 (pc' := 45) (L' := (q_L [])) (st' := [.inr (.inl (-1))]) (σ' := σ) (fun _ => rfl) ?_
  cases h
  exact ⟨1, rfl⟩
theorem M_about_b140_e {n : Nat} {r0 : (Int64) × J} {f : Nat} {s0 : Int64} {σ : J} (h : M_about_b140 n f s0 σ = some r0) : q_ex q_pr n 1 80 140 (q_L []) [.inr (.inl s0)] σ (M_about_r r0) := by
  unfold M_about_b140 at h
  cases h
  exact ⟨1, rfl⟩
theorem M_about_b46_e {n : Nat} {r0 : (Int64) × J} {f : Nat} {l2 : Int32} {l3 : Int32} {σ : J} (h : M_about_b46 n f l2 l3 σ = some r0) : q_ex q_pr n 1 80 46 (q_L [(0, .inr (.inr (some (24, 0)))), (2, .inl l2), (3, .inl l3)]) [] σ (M_about_r r0) := by
  unfold M_about_b46 at h
  refine q_ex_br 2 (c := l2 = 0) (pc1 := 50) (pc2 := 60) (L' := (q_L [(0, .inr (.inr (some (24, 0)))), (2, .inl l2), (3, .inl l3)])) (st' := []) (σ' := σ) (fun _ => rfl) (fun hc => ?_) (fun hc => ?_)
  · rw [if_pos hc] at h
    refine q_by h (fun hz h => ?_)
    refine q_ex_gb 4 (pc' := 56) (L' := (q_L [(0, .inr (.inr (some (24, 0)))), (2, .inl l2), (3, .inl l3)])) (st' := [.inl (σ.2.1 26 0 l3.toNatClampNeg)]) (σ' := σ) (fun _ => rfl) hz ?_
    refine q_ex_go 2 (pc' := 140) (L' := (q_L [(0, .inr (.inr (some (24, 0)))), (2, .inl l2), (3, .inl l3)])) (st' := [.inr (.inl ((σ.2.1 26 0 l3.toNatClampNeg).toInt64))]) (σ' := σ) (fun _ => rfl) ?_
    exact q_ex_ll (M_about_b140_e h) trivial
  · rw [if_neg hc] at h
    refine q_ex_br 3 (c := l2 = 1) (pc1 := 65) (pc2 := 75) (L' := (q_L [(0, .inr (.inr (some (24, 0)))), (2, .inl l2), (3, .inl l3)])) (st' := []) (σ' := σ) (fun _ => rfl) (fun hc => ?_) (fun hc => ?_)
    · rw [if_pos hc] at h
      refine q_by h (fun hz h => ?_)
      refine q_ex_gb 4 (pc' := 71) (L' := (q_L [(0, .inr (.inr (some (24, 0)))), (2, .inl l2), (3, .inl l3)])) (st' := [.inl (σ.2.1 27 0 l3.toNatClampNeg)]) (σ' := σ) (fun _ => rfl) hz ?_
      refine q_ex_go 2 (pc' := 140) (L' := (q_L [(0, .inr (.inr (some (24, 0)))), (2, .inl l2), (3, .inl l3)])) (st' := [.inr (.inl ((σ.2.1 27 0 l3.toNatClampNeg).toInt64))]) (σ' := σ) (fun _ => rfl) ?_
      exact q_ex_ll (M_about_b140_e h) trivial
    · rw [if_neg hc] at h
      refine q_ex_br 3 (c := l2 = 2) (pc1 := 80) (pc2 := 90) (L' := (q_L [(0, .inr (.inr (some (24, 0)))), (2, .inl l2), (3, .inl l3)])) (st' := []) (σ' := σ) (fun _ => rfl) (fun hc => ?_) (fun hc => ?_)
      · rw [if_pos hc] at h
        refine q_by h (fun hz h => ?_)
        refine q_ex_gb 4 (pc' := 86) (L' := (q_L [(0, .inr (.inr (some (24, 0)))), (2, .inl l2), (3, .inl l3)])) (st' := [.inl (σ.2.1 28 0 l3.toNatClampNeg)]) (σ' := σ) (fun _ => rfl) hz ?_
        refine q_ex_go 2 (pc' := 140) (L' := (q_L [(0, .inr (.inr (some (24, 0)))), (2, .inl l2), (3, .inl l3)])) (st' := [.inr (.inl ((σ.2.1 28 0 l3.toNatClampNeg).toInt64))]) (σ' := σ) (fun _ => rfl) ?_
        exact q_ex_ll (M_about_b140_e h) trivial
      · rw [if_neg hc] at h
        refine q_ex_br 3 (c := l2 = 3) (pc1 := 95) (pc2 := 105) (L' := (q_L [(0, .inr (.inr (some (24, 0)))), (2, .inl l2), (3, .inl l3)])) (st' := []) (σ' := σ) (fun _ => rfl) (fun hc => ?_) (fun hc => ?_)
        · rw [if_pos hc] at h
          refine q_by h (fun hz h => ?_)
          refine q_ex_gb 4 (pc' := 101) (L' := (q_L [(0, .inr (.inr (some (24, 0)))), (2, .inl l2), (3, .inl l3)])) (st' := [.inl (σ.2.1 30 0 l3.toNatClampNeg)]) (σ' := σ) (fun _ => rfl) hz ?_
          refine q_ex_go 2 (pc' := 140) (L' := (q_L [(0, .inr (.inr (some (24, 0)))), (2, .inl l2), (3, .inl l3)])) (st' := [.inr (.inl ((σ.2.1 30 0 l3.toNatClampNeg).toInt64))]) (σ' := σ) (fun _ => rfl) ?_
          exact q_ex_ll (M_about_b140_e h) trivial
        · rw [if_neg hc] at h
          refine q_ex_br 3 (c := 8 ≤ l2) (pc1 := 127) (pc2 := 111) (L' := (q_L [(0, .inr (.inr (some (24, 0)))), (2, .inl l2), (3, .inl l3)])) (st' := []) (σ' := σ) (fun _ => rfl) (fun hc => ?_) (fun hc => ?_)
          · rw [if_pos hc] at h
            refine q_by h (fun hz h => ?_)
            refine q_ex_gb 10 (pc' := 140) (L' := (q_L [(0, .inr (.inr (some (24, 0)))), (2, .inl l2), (3, .inl l3)])) (st' := [.inr (.inl (σ.2.2.1 33 0 (((4 * l3) + l2) - 8).toNatClampNeg))]) (σ' := σ) (fun _ => rfl) hz ?_
            exact q_ex_ll (M_about_b140_e h) trivial
          · rw [if_neg hc] at h
            refine q_by h (fun hz h => ?_)
            refine q_ex_gb 10 (pc' := 123) (L' := (q_L [(0, .inr (.inr (some (24, 0)))), (2, .inl l2), (3, .inl l3)])) (st' := [.inl (σ.2.1 32 0 (((4 * l3) + l2) - 4).toNatClampNeg)]) (σ' := σ) (fun _ => rfl) hz ?_
            refine q_ex_go 2 (pc' := 140) (L' := (q_L [(0, .inr (.inr (some (24, 0)))), (2, .inl l2), (3, .inl l3)])) (st' := [.inr (.inl ((σ.2.1 32 0 (((4 * l3) + l2) - 4).toNatClampNeg).toInt64))]) (σ' := σ) (fun _ => rfl) ?_
            exact q_ex_ll (M_about_b140_e h) trivial
theorem M_about_b0_e {n : Nat} {r0 : (Int64) × J} {f : Nat} {l1 : Int32} {l2 : Int32} {σ : J} (h : M_about_b0 n f l1 l2 σ = some r0) : q_ex q_pr n 1 80 0 (q_L [(0, .inr (.inr (some (24, 0)))), (1, .inl l1), (2, .inl l2)]) [] σ (M_about_r r0) := by
  unfold M_about_b0 at h
  refine q_ex_go 3 (pc' := 5) (L' := (q_L [(0, .inr (.inr (some (24, 0)))), (1, .inl l1), (2, .inl l2)])) (st' := []) (σ' := (q_sI σ 24 0 0 0)) (fun _ => rfl) ?_
  refine q_nm (G := fun τ => q_ex q_pr n _ 80 5 (q_L [(0, .inr (.inr (some (24, 0)))), (1, .inl l1), (2, .inl l2)]) [] τ _) h (fun σ1 h => ?_)
  obtain ⟨q2, hq2, h⟩ := Option.bind_eq_some_iff.mp h
  refine q_ex_ca 3 (k1 := 107) (vs := [.inr (.inr (some (24, 0))), .inl l1]) (pc' := 10) (L' := (q_L [(0, .inr (.inr (some (24, 0)))), (1, .inl l1), (2, .inl l2)])) (rest := []) (σ' := σ1) (fun _ => rfl) (q_ex_dd (M_place_e hq2) (Nat.le_of_ble_eq_true rfl)) rfl ?_
  refine q_ex_br 3 (c := q2.1 < 0) (pc1 := 42) (pc2 := 15) (L' := (q_s1 (q_L [(0, .inr (.inr (some (24, 0)))), (1, .inl l1), (2, .inl l2)]) 3 (.inl q2.1))) (st' := []) (σ' := q2.2) (fun _ => rfl) (fun hc => ?_) (fun hc => ?_)
  · rw [if_pos hc] at h
    exact q_ex_ll (M_about_b42_e h) trivial
  · rw [if_neg hc] at h
    refine q_ex_br 2 (c := l2 < 0) (pc1 := 42) (pc2 := 19) (L' := (q_s1 (q_L [(0, .inr (.inr (some (24, 0)))), (1, .inl l1), (2, .inl l2)]) 3 (.inl q2.1))) (st' := []) (σ' := q2.2) (fun _ => rfl) (fun hc => ?_) (fun hc => ?_)
    · rw [if_pos hc] at h
      exact q_ex_ll (M_about_b42_e h) trivial
    · rw [if_neg hc] at h
      refine q_ex_br 3 (c := 11 < l2) (pc1 := 42) (pc2 := 25) (L' := (q_s1 (q_L [(0, .inr (.inr (some (24, 0)))), (1, .inl l1), (2, .inl l2)]) 3 (.inl q2.1))) (st' := []) (σ' := q2.2) (fun _ => rfl) (fun hc => ?_) (fun hc => ?_)
      · rw [if_pos hc] at h
        exact q_ex_ll (M_about_b42_e h) trivial
      · rw [if_neg hc] at h
        refine q_ex_br 3 (c := l2 ≤ 3) (pc1 := 46) (pc2 := 30) (L' := (q_s1 (q_L [(0, .inr (.inr (some (24, 0)))), (1, .inl l1), (2, .inl l2)]) 3 (.inl q2.1))) (st' := []) (σ' := q2.2) (fun _ => rfl) (fun hc => ?_) (fun hc => ?_)
        · rw [if_pos hc] at h
          exact q_ex_ll (M_about_b46_e h) ⟨rfl, rfl, rfl, trivial⟩
        · rw [if_neg hc] at h
          refine q_byn h (fun hz h => ?_)
          refine q_ex_gn 3 (pc' := 33) (L' := (q_s1 (q_L [(0, .inr (.inr (some (24, 0)))), (1, .inl l1), (2, .inl l2)]) 3 (.inl q2.1))) (st' := [.inl (l2 - l2 / 4 * 4)]) (σ' := q2.2) (fun _ => rfl) hz ?_
          refine q_by h (fun hz h => ?_)
          refine q_ex_gb 4 (pc' := 39) (L' := (q_s1 (q_L [(0, .inr (.inr (some (24, 0)))), (1, .inl l1), (2, .inl l2)]) 3 (.inl q2.1))) (st' := [.inl (q2.2.2.1 26 0 q2.1.toNatClampNeg), .inl (l2 - l2 / 4 * 4)]) (σ' := q2.2) (fun _ => rfl) hz ?_
          refine q_ex_br 1 (c := (l2 - l2 / 4 * 4) < (q2.2.2.1 26 0 q2.1.toNatClampNeg)) (pc1 := 46) (pc2 := 42) (L' := (q_s1 (q_L [(0, .inr (.inr (some (24, 0)))), (1, .inl l1), (2, .inl l2)]) 3 (.inl q2.1))) (st' := []) (σ' := q2.2) (fun _ => rfl) (fun hc => ?_) (fun hc => ?_)
          · rw [if_pos hc] at h
            exact q_ex_ll (M_about_b46_e h) ⟨rfl, rfl, rfl, trivial⟩
          · rw [if_neg hc] at h
            exact q_ex_ll (M_about_b42_e h) trivial
theorem M_about_e {n : Nat} {r0 : (Int64) × J} {f : Nat} {x1 : Int32} {x2 : Int32} {σ : J} (h : M_about n f x1 x2 σ = some r0) : q_ex q_pr n 1 80 0 (q_args 0 [.inr (.inr (some (24, 0))), .inl x1, .inl x2]) [] σ (M_about_r r0) := q_ex_ll (M_about_b0_e h) ⟨rfl, rfl, rfl, trivial⟩
def M_outside_r : J → Res := fun σ => (.inl none, σ)
-- 106: M_outside
def M_outside_b90 (n : Nat) (k9 : Int32 → Int32 → J → Option (J)) (f : Nat) (l1 : Int32) (l2 : Int32) (σ : J) : Option (J) := k9 l1 (l2 + 1) σ
def M_outside_b9 (n : Nat) (k9 : Int32 → Int32 → J → Option (J)) (f : Nat) (l1 : Int32) (l2 : Int32) (σ : J) : Option (J) := if (σ.1 24 30 0) ≤ l2 then some σ else if q_in l2 6 = true then if (σ.2.1 51 0 l2.toNatClampNeg) = 0 then (M_fits n f l1 (12 + l2) 0 σ).bind fun q2 => if q2.1 = 0 then M_outside_b90 n k9 f l1 l2 q2.2 else if q_in l2 6 = true then if (q2.2.2.1 49 0 l2.toNatClampNeg) = 5 then if q_in l2 6 = true then if (1 : Int32) &&& 1 = 1 then q_bs (q_sA q2.2 51 0 (upd (q2.2.2.1 51 0) l2.toNatClampNeg 1)) fun σ3 => M_outside_b90 n k9 f l1 l2 σ3 else none else none else if q_in l2 6 = true then if q_in l1 20 = true then if q_in ((5 * l2) + (q2.2.2.1 49 0 l2.toNatClampNeg)) 30 = true then q_bs (q_sA q2.2 50 0 (upd (q2.2.2.1 50 0) (((5 * l2) + (q2.2.2.1 49 0 l2.toNatClampNeg)).toNatClampNeg) (q2.2.2.1 25 0 l1.toNatClampNeg))) fun σ4 => if q_in l2 6 = true then if q_in l2 6 = true then q_bs (q_sA σ4 49 0 (upd (σ4.2.1 49 0) l2.toNatClampNeg ((σ4.2.1 49 0 l2.toNatClampNeg) + 1))) fun σ5 => M_outside_b90 n k9 f l1 l2 σ5 else none else none else none else none else none else none else M_outside_b90 n k9 f l1 l2 σ else none
def M_outside_L9 (n : Nat) : Nat → Int32 → Int32 → J → Option (J)
  | 0 => fun _ _ _ => none
  | f + 1 => fun l1 l2 σ => M_outside_b9 n (M_outside_L9 n f) f l1 l2 σ
def M_outside_b0 (n : Nat) (f : Nat) (l1 : Int32) (σ : J) : Option (J) := if q_in l1 20 = true then q_bs (q_sA σ 28 0 (upd (σ.2.1 28 0) l1.toNatClampNeg (-1))) fun σ1 => M_outside_L9 n f l1 0 σ1 else none
def M_outside (n : Nat) (f : Nat) (x1 : Int32) (σ : J) : Option (J) := M_outside_b0 n f x1 σ
theorem M_outside_b90_e {n : Nat} {r0 : J} {k9 : Int32 → Int32 → J → Option (J)} {f : Nat} {l1 : Int32} {l2 : Int32} {σ : J} (hk9 : ∀ {l1 : Int32} {l2 : Int32} {σ : J}, k9 l1 l2 σ = some r0 → q_ex q_pr n 3 106 9 (q_L [(0, .inr (.inr (some (24, 0)))), (1, .inl l1), (2, .inl l2)]) [] σ (M_outside_r r0)) (h : M_outside_b90 n k9 f l1 l2 σ = some r0) : q_ex q_pr n 3 106 90 (q_L [(0, .inr (.inr (some (24, 0)))), (1, .inl l1), (2, .inl l2)]) [] σ (M_outside_r r0) := by
  unfold M_outside_b90 at h
  refine q_ex_go 2 (pc' := 9) (L' := (q_s1 (q_L [(0, .inr (.inr (some (24, 0)))), (1, .inl l1), (2, .inl l2)]) 2 (.inl (l2 + 1)))) (st' := []) (σ' := σ) (fun _ => rfl) ?_
  exact q_ex_ll (hk9 h) ⟨rfl, rfl, rfl, trivial⟩
theorem M_outside_b9_e {n : Nat} {r0 : J} {k9 : Int32 → Int32 → J → Option (J)} {f : Nat} {l1 : Int32} {l2 : Int32} {σ : J} (hk9 : ∀ {l1 : Int32} {l2 : Int32} {σ : J}, k9 l1 l2 σ = some r0 → q_ex q_pr n 3 106 9 (q_L [(0, .inr (.inr (some (24, 0)))), (1, .inl l1), (2, .inl l2)]) [] σ (M_outside_r r0)) (h : M_outside_b9 n k9 f l1 l2 σ = some r0) : q_ex q_pr n 3 106 9 (q_L [(0, .inr (.inr (some (24, 0)))), (1, .inl l1), (2, .inl l2)]) [] σ (M_outside_r r0) := by
  unfold M_outside_b9 at h
  refine q_ex_br 4 (c := (σ.1 24 30 0) ≤ l2) (pc1 := 96) (pc2 := 17) (L' := (q_L [(0, .inr (.inr (some (24, 0)))), (1, .inl l1), (2, .inl l2)])) (st' := []) (σ' := σ) (fun _ => rfl) (fun hc => ?_) (fun hc => ?_)
  · rw [if_pos hc] at h
    cases h
    exact ⟨1, rfl⟩
  · rw [if_neg hc] at h
    refine q_by h (fun hz h => ?_)
    refine q_ex_gb 4 (pc' := 23) (L' := (q_L [(0, .inr (.inr (some (24, 0)))), (1, .inl l1), (2, .inl l2)])) (st' := [.inl (σ.2.1 51 0 l2.toNatClampNeg)]) (σ' := σ) (fun _ => rfl) hz ?_
    refine q_ex_br 1 (c := (σ.2.1 51 0 l2.toNatClampNeg) = 0) (pc1 := 26) (pc2 := 90) (L' := (q_L [(0, .inr (.inr (some (24, 0)))), (1, .inl l1), (2, .inl l2)])) (st' := []) (σ' := σ) (fun _ => rfl) (fun hc => ?_) (fun hc => ?_)
    · rw [if_pos hc] at h
      obtain ⟨q2, hq2, h⟩ := Option.bind_eq_some_iff.mp h
      refine q_ex_ca 7 (k1 := 91) (vs := [.inr (.inr (some (24, 0))), .inl l1, .inl (12 + l2), .inl 0]) (pc' := 36) (L' := (q_L [(0, .inr (.inr (some (24, 0)))), (1, .inl l1), (2, .inl l2)])) (rest := []) (σ' := σ) (fun _ => rfl) (q_ex_dd (M_fits_e hq2) (Nat.le_of_ble_eq_true rfl)) rfl ?_
      refine q_ex_br 1 (c := q2.1 = 0) (pc1 := 90) (pc2 := 39) (L' := (q_L [(0, .inr (.inr (some (24, 0)))), (1, .inl l1), (2, .inl l2)])) (st' := []) (σ' := q2.2) (fun _ => rfl) (fun hc => ?_) (fun hc => ?_)
      · rw [if_pos hc] at h
        exact q_ex_ll (M_outside_b90_e hk9 h) ⟨rfl, rfl, rfl, trivial⟩
      · rw [if_neg hc] at h
        refine q_by h (fun hz h => ?_)
        refine q_ex_gb 4 (pc' := 45) (L' := (q_L [(0, .inr (.inr (some (24, 0)))), (1, .inl l1), (2, .inl l2)])) (st' := [.inl (q2.2.2.1 49 0 l2.toNatClampNeg)]) (σ' := q2.2) (fun _ => rfl) hz ?_
        refine q_ex_br 2 (c := (q2.2.2.1 49 0 l2.toNatClampNeg) = 5) (pc1 := 49) (pc2 := 59) (L' := (q_L [(0, .inr (.inr (some (24, 0)))), (1, .inl l1), (2, .inl l2)])) (st' := []) (σ' := q2.2) (fun _ => rfl) (fun hc => ?_) (fun hc => ?_)
        · rw [if_pos hc] at h
          refine q_by h (fun hz h => ?_)
          refine q_by h (fun hy h => ?_)
          refine q_ex_gz 5 (pc' := 56) (L' := (q_L [(0, .inr (.inr (some (24, 0)))), (1, .inl l1), (2, .inl l2)])) (st' := []) (σ' := (q_sA q2.2 51 0 (upd (q2.2.2.1 51 0) l2.toNatClampNeg 1))) (fun _ => rfl) hz hy ?_
          refine q_nm (G := fun τ => q_ex q_pr n _ 106 56 (q_L [(0, .inr (.inr (some (24, 0)))), (1, .inl l1), (2, .inl l2)]) [] τ _) h (fun σ3 h => ?_)
          refine q_ex_go 1 (pc' := 90) (L' := (q_L [(0, .inr (.inr (some (24, 0)))), (1, .inl l1), (2, .inl l2)])) (st' := []) (σ' := σ3) (fun _ => rfl) ?_
          exact q_ex_ll (M_outside_b90_e hk9 h) ⟨rfl, rfl, rfl, trivial⟩
        · rw [if_neg hc] at h
          refine q_by h (fun hz h => ?_)
          refine q_ex_gb 9 (pc' := 72) (L' := (q_L [(0, .inr (.inr (some (24, 0)))), (1, .inl l1), (2, .inl l2)])) (st' := [.inl (q2.2.2.1 49 0 l2.toNatClampNeg), .inl (5 * l2), .inr (.inr (some (50, 0)))]) (σ' := q2.2) (fun _ => rfl) hz ?_
          refine q_by h (fun hz h => ?_)
          refine q_ex_gb 5 (pc' := 79) (L' := (q_L [(0, .inr (.inr (some (24, 0)))), (1, .inl l1), (2, .inl l2)])) (st' := [.inl (q2.2.2.1 25 0 l1.toNatClampNeg), .inl ((5 * l2) + (q2.2.2.1 49 0 l2.toNatClampNeg)), .inr (.inr (some (50, 0)))]) (σ' := q2.2) (fun _ => rfl) hz ?_
          refine q_by h (fun hz h => ?_)
          refine q_ex_gb 1 (pc' := 80) (L' := (q_L [(0, .inr (.inr (some (24, 0)))), (1, .inl l1), (2, .inl l2)])) (st' := []) (σ' := (q_sA q2.2 50 0 (upd (q2.2.2.1 50 0) (((5 * l2) + (q2.2.2.1 49 0 l2.toNatClampNeg)).toNatClampNeg) (q2.2.2.1 25 0 l1.toNatClampNeg)))) (fun _ => rfl) hz ?_
          refine q_nm (G := fun τ => q_ex q_pr n _ 106 80 (q_L [(0, .inr (.inr (some (24, 0)))), (1, .inl l1), (2, .inl l2)]) [] τ _) h (fun σ4 h => ?_)
          refine q_by h (fun hz h => ?_)
          refine q_ex_gb 5 (pc' := 87) (L' := (q_L [(0, .inr (.inr (some (24, 0)))), (1, .inl l1), (2, .inl l2)])) (st' := [.inl (σ4.2.1 49 0 l2.toNatClampNeg), .inl l2, .inr (.inr (some (49, 0)))]) (σ' := σ4) (fun _ => rfl) hz ?_
          refine q_by h (fun hz h => ?_)
          refine q_ex_gb 3 (pc' := 90) (L' := (q_L [(0, .inr (.inr (some (24, 0)))), (1, .inl l1), (2, .inl l2)])) (st' := []) (σ' := (q_sA σ4 49 0 (upd (σ4.2.1 49 0) l2.toNatClampNeg ((σ4.2.1 49 0 l2.toNatClampNeg) + 1)))) (fun _ => rfl) hz ?_
          refine q_nm (G := fun τ => q_ex q_pr n _ 106 90 (q_L [(0, .inr (.inr (some (24, 0)))), (1, .inl l1), (2, .inl l2)]) [] τ _) h (fun σ5 h => ?_)
          exact q_ex_ll (M_outside_b90_e hk9 h) ⟨rfl, rfl, rfl, trivial⟩
    · rw [if_neg hc] at h
      exact q_ex_ll (M_outside_b90_e hk9 h) ⟨rfl, rfl, rfl, trivial⟩
theorem M_outside_L9_e {n : Nat} {r0 : J} (f : Nat) : ∀ {l1 : Int32} {l2 : Int32} {σ : J}, M_outside_L9 n f l1 l2 σ = some r0 → q_ex q_pr n 3 106 9 (q_L [(0, .inr (.inr (some (24, 0)))), (1, .inl l1), (2, .inl l2)]) [] σ (M_outside_r r0) := by
  induction f with
  | zero => intro l1 l2 σ h; cases h
  | succ f ih =>
    intro l1 l2 σ h
    exact M_outside_b9_e (f := f)  (fun h => ih h) h
theorem M_outside_b0_e {n : Nat} {r0 : J} {f : Nat} {l1 : Int32} {σ : J} (h : M_outside_b0 n f l1 σ = some r0) : q_ex q_pr n 3 106 0 (q_L [(0, .inr (.inr (some (24, 0)))), (1, .inl l1)]) [] σ (M_outside_r r0) := by
  unfold M_outside_b0 at h
  refine q_by h (fun hz h => ?_)
  refine q_ex_gb 5 (pc' := 7) (L' := (q_L [(0, .inr (.inr (some (24, 0)))), (1, .inl l1)])) (st' := []) (σ' := (q_sA σ 28 0 (upd (σ.2.1 28 0) l1.toNatClampNeg (-1)))) (fun _ => rfl) hz ?_
  refine q_nm (G := fun τ => q_ex q_pr n _ 106 7 (q_L [(0, .inr (.inr (some (24, 0)))), (1, .inl l1)]) [] τ _) h (fun σ1 h => ?_)
  refine q_ex_go 2 (pc' := 9) (L' := (q_s1 (q_L [(0, .inr (.inr (some (24, 0)))), (1, .inl l1)]) 2 (.inl 0))) (st' := []) (σ' := σ1) (fun _ => rfl) ?_
  exact q_ex_ll (M_outside_L9_e f h) ⟨rfl, rfl, rfl, trivial⟩
theorem M_outside_e {n : Nat} {r0 : J} {f : Nat} {x1 : Int32} {σ : J} (h : M_outside n f x1 σ = some r0) : q_ex q_pr n 3 106 0 (q_args 0 [.inr (.inr (some (24, 0))), .inl x1]) [] σ (M_outside_r r0) := q_ex_ll (M_outside_b0_e h) ⟨rfl, rfl, trivial⟩
def M_add_r : (Int32) × J → Res := fun q => (.inl (some (.inl q.1)), q.2)
-- 81: M_add
def M_add_b179 (n : Nat) (f : Nat) (l4 : Int32) (σ : J) : Option ((Int32) × J) := some (l4, σ)
def M_add_b100 (n : Nat) (k100 : Int32 → Int32 → Int32 → Int32 → J → Option ((Int32) × J)) (f : Nat) (l1 : Int32) (l3 : Int32) (l4 : Int32) (l5 : Int32) (σ : J) : Option ((Int32) × J) := if q_in l1 4 = true then if (σ.2.1 35 0 l1.toNatClampNeg) ≤ l5 then if q_in l1 4 = true then if (σ.2.1 34 0 l1.toNatClampNeg) = 0 then (M_outside n f l3 σ).bind fun q9 => (M_serve n f q9).bind fun q10 => M_add_b179 n f l4 q10 else M_add_b179 n f l4 σ else none else if q_in ((4 * l1) + l5) 16 = true then if q_in ((4 * l3) + l5) 80 = true then q_bs (q_sA σ 32 0 (upd (σ.2.1 32 0) (((4 * l3) + l5).toNatClampNeg) (σ.2.1 36 0 ((4 * l1) + l5).toNatClampNeg))) fun σ11 => if q_in ((4 * l1) + l5) 16 = true then if q_in ((4 * l3) + l5) 80 = true then q_bs (q_sL σ11 33 0 (vp_updL (σ11.2.2.1 33 0) (((4 * l3) + l5).toNatClampNeg) (σ11.2.2.1 37 0 ((4 * l1) + l5).toNatClampNeg))) fun σ12 => k100 l1 l3 l4 (l5 + 1) σ12 else none else none else none else none else none
def M_add_L100 (n : Nat) : Nat → Int32 → Int32 → Int32 → Int32 → J → Option ((Int32) × J)
  | 0 => fun _ _ _ _ _ => none
  | f + 1 => fun l1 l3 l4 l5 σ => M_add_b100 n (M_add_L100 n f) f l1 l3 l4 l5 σ
def M_add_b70 (n : Nat) (f : Nat) (l1 : Int32) (l3 : Int32) (l4 : Int32) (s1 : Int32) (s2 : Int32) (σ : J) : Option ((Int32) × J) := if q_in s1 20 = true then q_bs (q_sA σ 27 0 (upd (σ.2.1 27 0) s1.toNatClampNeg s2)) fun σ5 => if q_in l3 20 = true then q_bs (q_sA σ5 28 0 (upd (σ5.2.1 28 0) l3.toNatClampNeg l1)) fun σ6 => if q_in l1 4 = true then if q_in l3 20 = true then q_bs (q_sA σ6 29 0 (upd (σ6.2.1 29 0) l3.toNatClampNeg (σ6.2.1 34 0 l1.toNatClampNeg))) fun σ7 => if q_in l3 20 = true then q_bs (q_sA σ7 30 0 (upd (σ7.2.1 30 0) l3.toNatClampNeg (-1))) fun σ8 => M_add_L100 n f l1 l3 l4 0 σ8 else none else none else none else none else none
def M_add_b0 (n : Nat) (f : Nat) (l1 : Int32) (l2 : Int32) (σ : J) : Option ((Int32) × J) := q_bs (q_sI σ 24 1 0 ((σ.1 24 1 0) + 1)) fun σ1 => q_bs (q_sI σ1 24 2 0 ((σ1.1 24 2 0) + 1)) fun σ2 => if q_in (σ.1 24 1 0) 20 = true then q_bs (q_sA σ2 25 0 (upd (σ2.2.1 25 0) ((σ.1 24 1 0).toNatClampNeg) (σ2.1 24 2 0))) fun σ3 => if q_in l1 4 = true then if q_in (σ.1 24 1 0) 20 = true then q_bs (q_sA σ3 26 0 (upd (σ3.2.1 26 0) ((σ.1 24 1 0).toNatClampNeg) (σ3.2.1 35 0 l1.toNatClampNeg))) fun σ4 => if l2 = 0 then M_add_b70 n f l1 (σ.1 24 1 0) (σ2.1 24 2 0) (σ.1 24 1 0) 0 σ4 else M_add_b70 n f l1 (σ.1 24 1 0) (σ2.1 24 2 0) (σ.1 24 1 0) ((σ4.1 24 3 0) + l2) σ4 else none else none else none
def M_add (n : Nat) (f : Nat) (x1 : Int32) (x2 : Int32) (σ : J) : Option ((Int32) × J) := M_add_b0 n f x1 x2 σ
theorem M_add_b179_e {n : Nat} {r0 : (Int32) × J} {f : Nat} {l4 : Int32} {σ : J} (h : M_add_b179 n f l4 σ = some r0) : q_ex q_pr n 6 81 179 (q_L [(4, .inl l4)]) [] σ (M_add_r r0) := by
  unfold M_add_b179 at h
  refine q_ex_go 1 (pc' := 181) (L' := (q_L [(4, .inl l4)])) (st' := [.inl l4]) (σ' := σ) (fun _ => rfl) ?_
  cases h
  exact ⟨1, rfl⟩
theorem M_add_b100_e {n : Nat} {r0 : (Int32) × J} {k100 : Int32 → Int32 → Int32 → Int32 → J → Option ((Int32) × J)} {f : Nat} {l1 : Int32} {l3 : Int32} {l4 : Int32} {l5 : Int32} {σ : J} (hk100 : ∀ {l1 : Int32} {l3 : Int32} {l4 : Int32} {l5 : Int32} {σ : J}, k100 l1 l3 l4 l5 σ = some r0 → q_ex q_pr n 6 81 100 (q_L [(0, .inr (.inr (some (24, 0)))), (1, .inl l1), (3, .inl l3), (4, .inl l4), (5, .inl l5)]) [] σ (M_add_r r0)) (h : M_add_b100 n k100 f l1 l3 l4 l5 σ = some r0) : q_ex q_pr n 6 81 100 (q_L [(0, .inr (.inr (some (24, 0)))), (1, .inl l1), (3, .inl l3), (4, .inl l4), (5, .inl l5)]) [] σ (M_add_r r0) := by
  unfold M_add_b100 at h
  refine q_by h (fun hz h => ?_)
  refine q_ex_gb 5 (pc' := 108) (L' := (q_L [(0, .inr (.inr (some (24, 0)))), (1, .inl l1), (3, .inl l3), (4, .inl l4), (5, .inl l5)])) (st' := [.inl (σ.2.1 35 0 l1.toNatClampNeg), .inl l5]) (σ' := σ) (fun _ => rfl) hz ?_
  refine q_ex_br 1 (c := (σ.2.1 35 0 l1.toNatClampNeg) ≤ l5) (pc1 := 161) (pc2 := 111) (L' := (q_L [(0, .inr (.inr (some (24, 0)))), (1, .inl l1), (3, .inl l3), (4, .inl l4), (5, .inl l5)])) (st' := []) (σ' := σ) (fun _ => rfl) (fun hc => ?_) (fun hc => ?_)
  · rw [if_pos hc] at h
    refine q_by h (fun hz h => ?_)
    refine q_ex_gb 4 (pc' := 167) (L' := (q_L [(0, .inr (.inr (some (24, 0)))), (1, .inl l1), (3, .inl l3), (4, .inl l4), (5, .inl l5)])) (st' := [.inl (σ.2.1 34 0 l1.toNatClampNeg)]) (σ' := σ) (fun _ => rfl) hz ?_
    refine q_ex_br 1 (c := (σ.2.1 34 0 l1.toNatClampNeg) = 0) (pc1 := 170) (pc2 := 179) (L' := (q_L [(0, .inr (.inr (some (24, 0)))), (1, .inl l1), (3, .inl l3), (4, .inl l4), (5, .inl l5)])) (st' := []) (σ' := σ) (fun _ => rfl) (fun hc => ?_) (fun hc => ?_)
    · rw [if_pos hc] at h
      obtain ⟨q9, hq9, h⟩ := Option.bind_eq_some_iff.mp h
      refine q_ex_ca 3 (k1 := 106) (vs := [.inr (.inr (some (24, 0))), .inl l3]) (pc' := 175) (L' := (q_L [(0, .inr (.inr (some (24, 0)))), (1, .inl l1), (3, .inl l3), (4, .inl l4), (5, .inl l5)])) (rest := []) (σ' := σ) (fun _ => rfl) (q_ex_dd (M_outside_e hq9) (Nat.le_of_ble_eq_true rfl)) rfl ?_
      obtain ⟨q10, hq10, h⟩ := Option.bind_eq_some_iff.mp h
      refine q_ex_ca 2 (k1 := 115) (vs := [.inr (.inr (some (24, 0)))]) (pc' := 179) (L' := (q_L [(0, .inr (.inr (some (24, 0)))), (1, .inl l1), (3, .inl l3), (4, .inl l4), (5, .inl l5)])) (rest := []) (σ' := q9) (fun _ => rfl) (q_ex_dd (M_serve_e hq10) (Nat.le_of_ble_eq_true rfl)) rfl ?_
      exact q_ex_ll (M_add_b179_e h) ⟨rfl, trivial⟩
    · rw [if_neg hc] at h
      exact q_ex_ll (M_add_b179_e h) ⟨rfl, trivial⟩
  · rw [if_neg hc] at h
    refine q_by h (fun hz h => ?_)
    refine q_ex_gb 15 (pc' := 132) (L' := (q_L [(0, .inr (.inr (some (24, 0)))), (1, .inl l1), (3, .inl l3), (4, .inl l4), (5, .inl l5)])) (st' := [.inl (σ.2.1 36 0 ((4 * l1) + l5).toNatClampNeg), .inl ((4 * l3) + l5), .inr (.inr (some (32, 0)))]) (σ' := σ) (fun _ => rfl) hz ?_
    refine q_by h (fun hz h => ?_)
    refine q_ex_gb 1 (pc' := 133) (L' := (q_L [(0, .inr (.inr (some (24, 0)))), (1, .inl l1), (3, .inl l3), (4, .inl l4), (5, .inl l5)])) (st' := []) (σ' := (q_sA σ 32 0 (upd (σ.2.1 32 0) (((4 * l3) + l5).toNatClampNeg) (σ.2.1 36 0 ((4 * l1) + l5).toNatClampNeg)))) (fun _ => rfl) hz ?_
    refine q_nm (G := fun τ => q_ex q_pr n _ 81 133 (q_L [(0, .inr (.inr (some (24, 0)))), (1, .inl l1), (3, .inl l3), (4, .inl l4), (5, .inl l5)]) [] τ _) h (fun σ11 h => ?_)
    refine q_by h (fun hz h => ?_)
    refine q_ex_gb 15 (pc' := 154) (L' := (q_L [(0, .inr (.inr (some (24, 0)))), (1, .inl l1), (3, .inl l3), (4, .inl l4), (5, .inl l5)])) (st' := [.inr (.inl (σ11.2.2.1 37 0 ((4 * l1) + l5).toNatClampNeg)), .inl ((4 * l3) + l5), .inr (.inr (some (33, 0)))]) (σ' := σ11) (fun _ => rfl) hz ?_
    refine q_by h (fun hz h => ?_)
    refine q_ex_gb 1 (pc' := 155) (L' := (q_L [(0, .inr (.inr (some (24, 0)))), (1, .inl l1), (3, .inl l3), (4, .inl l4), (5, .inl l5)])) (st' := []) (σ' := (q_sL σ11 33 0 (vp_updL (σ11.2.2.1 33 0) (((4 * l3) + l5).toNatClampNeg) (σ11.2.2.1 37 0 ((4 * l1) + l5).toNatClampNeg)))) (fun _ => rfl) hz ?_
    refine q_nm (G := fun τ => q_ex q_pr n _ 81 155 (q_L [(0, .inr (.inr (some (24, 0)))), (1, .inl l1), (3, .inl l3), (4, .inl l4), (5, .inl l5)]) [] τ _) h (fun σ12 h => ?_)
    refine q_ex_go 2 (pc' := 100) (L' := (q_s1 (q_L [(0, .inr (.inr (some (24, 0)))), (1, .inl l1), (3, .inl l3), (4, .inl l4), (5, .inl l5)]) 5 (.inl (l5 + 1)))) (st' := []) (σ' := σ12) (fun _ => rfl) ?_
    exact q_ex_ll (hk100 h) ⟨rfl, rfl, rfl, rfl, rfl, trivial⟩
theorem M_add_L100_e {n : Nat} {r0 : (Int32) × J} (f : Nat) : ∀ {l1 : Int32} {l3 : Int32} {l4 : Int32} {l5 : Int32} {σ : J}, M_add_L100 n f l1 l3 l4 l5 σ = some r0 → q_ex q_pr n 6 81 100 (q_L [(0, .inr (.inr (some (24, 0)))), (1, .inl l1), (3, .inl l3), (4, .inl l4), (5, .inl l5)]) [] σ (M_add_r r0) := by
  induction f with
  | zero => intro l1 l3 l4 l5 σ h; cases h
  | succ f ih =>
    intro l1 l3 l4 l5 σ h
    exact M_add_b100_e (f := f)  (fun h => ih h) h
theorem M_add_b70_e {n : Nat} {r0 : (Int32) × J} {f : Nat} {l1 : Int32} {l3 : Int32} {l4 : Int32} {s1 : Int32} {s2 : Int32} {σ : J} (h : M_add_b70 n f l1 l3 l4 s1 s2 σ = some r0) : q_ex q_pr n 6 81 70 (q_L [(0, .inr (.inr (some (24, 0)))), (1, .inl l1), (3, .inl l3), (4, .inl l4)]) [.inl s2, .inl s1, .inr (.inr (some (27, 0)))] σ (M_add_r r0) := by
  unfold M_add_b70 at h
  refine q_by h (fun hz h => ?_)
  refine q_ex_gb 1 (pc' := 71) (L' := (q_L [(0, .inr (.inr (some (24, 0)))), (1, .inl l1), (3, .inl l3), (4, .inl l4)])) (st' := []) (σ' := (q_sA σ 27 0 (upd (σ.2.1 27 0) s1.toNatClampNeg s2))) (fun _ => rfl) hz ?_
  refine q_nm (G := fun τ => q_ex q_pr n _ 81 71 (q_L [(0, .inr (.inr (some (24, 0)))), (1, .inl l1), (3, .inl l3), (4, .inl l4)]) [] τ _) h (fun σ5 h => ?_)
  refine q_by h (fun hz h => ?_)
  refine q_ex_gb 5 (pc' := 78) (L' := (q_L [(0, .inr (.inr (some (24, 0)))), (1, .inl l1), (3, .inl l3), (4, .inl l4)])) (st' := []) (σ' := (q_sA σ5 28 0 (upd (σ5.2.1 28 0) l3.toNatClampNeg l1))) (fun _ => rfl) hz ?_
  refine q_nm (G := fun τ => q_ex q_pr n _ 81 78 (q_L [(0, .inr (.inr (some (24, 0)))), (1, .inl l1), (3, .inl l3), (4, .inl l4)]) [] τ _) h (fun σ6 h => ?_)
  refine q_by h (fun hz h => ?_)
  refine q_ex_gb 7 (pc' := 89) (L' := (q_L [(0, .inr (.inr (some (24, 0)))), (1, .inl l1), (3, .inl l3), (4, .inl l4)])) (st' := [.inl (σ6.2.1 34 0 l1.toNatClampNeg), .inl l3, .inr (.inr (some (29, 0)))]) (σ' := σ6) (fun _ => rfl) hz ?_
  refine q_by h (fun hz h => ?_)
  refine q_ex_gb 1 (pc' := 90) (L' := (q_L [(0, .inr (.inr (some (24, 0)))), (1, .inl l1), (3, .inl l3), (4, .inl l4)])) (st' := []) (σ' := (q_sA σ6 29 0 (upd (σ6.2.1 29 0) l3.toNatClampNeg (σ6.2.1 34 0 l1.toNatClampNeg)))) (fun _ => rfl) hz ?_
  refine q_nm (G := fun τ => q_ex q_pr n _ 81 90 (q_L [(0, .inr (.inr (some (24, 0)))), (1, .inl l1), (3, .inl l3), (4, .inl l4)]) [] τ _) h (fun σ7 h => ?_)
  refine q_by h (fun hz h => ?_)
  refine q_ex_gb 5 (pc' := 97) (L' := (q_L [(0, .inr (.inr (some (24, 0)))), (1, .inl l1), (3, .inl l3), (4, .inl l4)])) (st' := []) (σ' := (q_sA σ7 30 0 (upd (σ7.2.1 30 0) l3.toNatClampNeg (-1)))) (fun _ => rfl) hz ?_
  refine q_nm (G := fun τ => q_ex q_pr n _ 81 97 (q_L [(0, .inr (.inr (some (24, 0)))), (1, .inl l1), (3, .inl l3), (4, .inl l4)]) [] τ _) h (fun σ8 h => ?_)
  refine q_ex_go 2 (pc' := 100) (L' := (q_s1 (q_L [(0, .inr (.inr (some (24, 0)))), (1, .inl l1), (3, .inl l3), (4, .inl l4)]) 5 (.inl 0))) (st' := []) (σ' := σ8) (fun _ => rfl) ?_
  exact q_ex_ll (M_add_L100_e f h) ⟨rfl, rfl, rfl, rfl, rfl, trivial⟩
theorem M_add_b0_e {n : Nat} {r0 : (Int32) × J} {f : Nat} {l1 : Int32} {l2 : Int32} {σ : J} (h : M_add_b0 n f l1 l2 σ = some r0) : q_ex q_pr n 6 81 0 (q_L [(0, .inr (.inr (some (24, 0)))), (1, .inl l1), (2, .inl l2)]) [] σ (M_add_r r0) := by
  unfold M_add_b0 at h
  refine q_ex_go 9 (pc' := 15) (L' := (q_s1 (q_L [(0, .inr (.inr (some (24, 0)))), (1, .inl l1), (2, .inl l2)]) 3 (.inl (σ.1 24 1 0)))) (st' := []) (σ' := (q_sI σ 24 1 0 ((σ.1 24 1 0) + 1))) (fun _ => rfl) ?_
  refine q_nm (G := fun τ => q_ex q_pr n _ 81 15 (q_s1 (q_L [(0, .inr (.inr (some (24, 0)))), (1, .inl l1), (2, .inl l2)]) 3 (.inl (σ.1 24 1 0))) [] τ _) h (fun σ1 h => ?_)
  refine q_ex_go 6 (pc' := 25) (L' := (q_s1 (q_L [(0, .inr (.inr (some (24, 0)))), (1, .inl l1), (2, .inl l2)]) 3 (.inl (σ.1 24 1 0)))) (st' := []) (σ' := (q_sI σ1 24 2 0 ((σ1.1 24 2 0) + 1))) (fun _ => rfl) ?_
  refine q_nm (G := fun τ => q_ex q_pr n _ 81 25 (q_s1 (q_L [(0, .inr (.inr (some (24, 0)))), (1, .inl l1), (2, .inl l2)]) 3 (.inl (σ.1 24 1 0))) [] τ _) h (fun σ2 h => ?_)
  refine q_by h (fun hz h => ?_)
  refine q_ex_gb 8 (pc' := 39) (L' := (q_s1 (q_s1 (q_L [(0, .inr (.inr (some (24, 0)))), (1, .inl l1), (2, .inl l2)]) 3 (.inl (σ.1 24 1 0))) 4 (.inl (σ2.1 24 2 0)))) (st' := []) (σ' := (q_sA σ2 25 0 (upd (σ2.2.1 25 0) ((σ.1 24 1 0).toNatClampNeg) (σ2.1 24 2 0)))) (fun _ => rfl) hz ?_
  refine q_nm (G := fun τ => q_ex q_pr n _ 81 39 (q_s1 (q_s1 (q_L [(0, .inr (.inr (some (24, 0)))), (1, .inl l1), (2, .inl l2)]) 3 (.inl (σ.1 24 1 0))) 4 (.inl (σ2.1 24 2 0))) [] τ _) h (fun σ3 h => ?_)
  refine q_by h (fun hz h => ?_)
  refine q_ex_gb 7 (pc' := 50) (L' := (q_s1 (q_s1 (q_L [(0, .inr (.inr (some (24, 0)))), (1, .inl l1), (2, .inl l2)]) 3 (.inl (σ.1 24 1 0))) 4 (.inl (σ2.1 24 2 0)))) (st' := [.inl (σ3.2.1 35 0 l1.toNatClampNeg), .inl (σ.1 24 1 0), .inr (.inr (some (26, 0)))]) (σ' := σ3) (fun _ => rfl) hz ?_
  refine q_by h (fun hz h => ?_)
  refine q_ex_gb 1 (pc' := 51) (L' := (q_s1 (q_s1 (q_L [(0, .inr (.inr (some (24, 0)))), (1, .inl l1), (2, .inl l2)]) 3 (.inl (σ.1 24 1 0))) 4 (.inl (σ2.1 24 2 0)))) (st' := []) (σ' := (q_sA σ3 26 0 (upd (σ3.2.1 26 0) ((σ.1 24 1 0).toNatClampNeg) (σ3.2.1 35 0 l1.toNatClampNeg)))) (fun _ => rfl) hz ?_
  refine q_nm (G := fun τ => q_ex q_pr n _ 81 51 (q_s1 (q_s1 (q_L [(0, .inr (.inr (some (24, 0)))), (1, .inl l1), (2, .inl l2)]) 3 (.inl (σ.1 24 1 0))) 4 (.inl (σ2.1 24 2 0))) [] τ _) h (fun σ4 h => ?_)
  refine q_ex_br 5 (c := l2 = 0) (pc1 := 60) (pc2 := 64) (L' := (q_s1 (q_s1 (q_L [(0, .inr (.inr (some (24, 0)))), (1, .inl l1), (2, .inl l2)]) 3 (.inl (σ.1 24 1 0))) 4 (.inl (σ2.1 24 2 0)))) (st' := [.inl (σ.1 24 1 0), .inr (.inr (some (27, 0)))]) (σ' := σ4) (fun _ => rfl) (fun hc => ?_) (fun hc => ?_)
  · rw [if_pos hc] at h
    refine q_ex_go 2 (pc' := 70) (L' := (q_s1 (q_s1 (q_L [(0, .inr (.inr (some (24, 0)))), (1, .inl l1), (2, .inl l2)]) 3 (.inl (σ.1 24 1 0))) 4 (.inl (σ2.1 24 2 0)))) (st' := [.inl 0, .inl (σ.1 24 1 0), .inr (.inr (some (27, 0)))]) (σ' := σ4) (fun _ => rfl) ?_
    exact q_ex_ll (M_add_b70_e h) ⟨rfl, rfl, rfl, rfl, trivial⟩
  · rw [if_neg hc] at h
    refine q_ex_go 4 (pc' := 70) (L' := (q_s1 (q_s1 (q_L [(0, .inr (.inr (some (24, 0)))), (1, .inl l1), (2, .inl l2)]) 3 (.inl (σ.1 24 1 0))) 4 (.inl (σ2.1 24 2 0)))) (st' := [.inl ((σ4.1 24 3 0) + l2), .inl (σ.1 24 1 0), .inr (.inr (some (27, 0)))]) (σ' := σ4) (fun _ => rfl) ?_
    exact q_ex_ll (M_add_b70_e h) ⟨rfl, rfl, rfl, rfl, trivial⟩
theorem M_add_e {n : Nat} {r0 : (Int32) × J} {f : Nat} {x1 : Int32} {x2 : Int32} {σ : J} (h : M_add n f x1 x2 σ = some r0) : q_ex q_pr n 6 81 0 (q_args 0 [.inr (.inr (some (24, 0))), .inl x1, .inl x2]) [] σ (M_add_r r0) := q_ex_ll (M_add_b0_e h) ⟨rfl, rfl, rfl, trivial⟩
def M_collect_r : (Int32) × J → Res := fun q => (.inl (some (.inl q.1)), q.2)
-- 84: M_collect
def M_collect_b78 (n : Nat) (k78 : Int32 → Int32 → Int32 → J → Option ((Int32) × J)) (f : Nat) (l1 : Int32) (l2 : Int32) (l3 : Int32) (σ : J) : Option ((Int32) × J) := if q_in l1 6 = true then if ((5 * l1) + (σ.2.1 49 0 l1.toNatClampNeg)) ≤ l3 then some (l2, σ) else if q_in (l3 + 1) 30 = true then if q_in l3 30 = true then q_bs (q_sA σ 50 0 (upd (σ.2.1 50 0) l3.toNatClampNeg (σ.2.1 50 0 (l3 + 1).toNatClampNeg))) fun σ3 => k78 l1 l2 (l3 + 1) σ3 else none else none else none
def M_collect_L78 (n : Nat) : Nat → Int32 → Int32 → Int32 → J → Option ((Int32) × J)
  | 0 => fun _ _ _ _ => none
  | f + 1 => fun l1 l2 l3 σ => M_collect_b78 n (M_collect_L78 n f) f l1 l2 l3 σ
def M_collect_b54 (n : Nat) (f : Nat) (s0 : Int32) (σ : J) : Option ((Int32) × J) := some (s0, σ)
def M_collect_b18 (n : Nat) (f : Nat) (l1 : Int32) (s1 : Int32) (σ : J) : Option ((Int32) × J) := q_bs (q_sI σ 24 0 0 s1) fun σ1 => if (σ1.1 24 0 0) ≤ 0 then if q_in l1 6 = true then if (σ1.2.1 49 0 l1.toNatClampNeg) = 0 then if q_in l1 6 = true then if (σ1.2.1 51 0 l1.toNatClampNeg) = 0 then M_collect_b54 n f (-1) σ1 else M_collect_b54 n f (-2) σ1 else none else if q_in (5 * l1) 30 = true then if q_in l1 6 = true then if q_in l1 6 = true then q_bs (q_sA σ1 49 0 (upd (σ1.2.1 49 0) l1.toNatClampNeg ((σ1.2.1 49 0 l1.toNatClampNeg) - 1))) fun σ2 => M_collect_L78 n f l1 (σ1.2.1 50 0 (5 * l1).toNatClampNeg) (5 * l1) σ2 else none else none else none else none else some (0, σ1)
def M_collect_b17 (n : Nat) (f : Nat) (l1 : Int32) (σ : J) : Option ((Int32) × J) := M_collect_b18 n f l1 1 σ
def M_collect_b0 (n : Nat) (f : Nat) (l1 : Int32) (σ : J) : Option ((Int32) × J) := if l1 < 0 then M_collect_b17 n f l1 σ else if (σ.1 24 30 0) ≤ l1 then M_collect_b17 n f l1 σ else M_collect_b18 n f l1 0 σ
def M_collect (n : Nat) (f : Nat) (x1 : Int32) (σ : J) : Option ((Int32) × J) := M_collect_b0 n f x1 σ
theorem M_collect_b78_e {n : Nat} {r0 : (Int32) × J} {k78 : Int32 → Int32 → Int32 → J → Option ((Int32) × J)} {f : Nat} {l1 : Int32} {l2 : Int32} {l3 : Int32} {σ : J} (hk78 : ∀ {l1 : Int32} {l2 : Int32} {l3 : Int32} {σ : J}, k78 l1 l2 l3 σ = some r0 → q_ex q_pr n 0 84 78 (q_L [(0, .inr (.inr (some (24, 0)))), (1, .inl l1), (2, .inl l2), (3, .inl l3)]) [] σ (M_collect_r r0)) (h : M_collect_b78 n k78 f l1 l2 l3 σ = some r0) : q_ex q_pr n 0 84 78 (q_L [(0, .inr (.inr (some (24, 0)))), (1, .inl l1), (2, .inl l2), (3, .inl l3)]) [] σ (M_collect_r r0) := by
  unfold M_collect_b78 at h
  refine q_by h (fun hz h => ?_)
  refine q_ex_gb 8 (pc' := 88) (L' := (q_L [(0, .inr (.inr (some (24, 0)))), (1, .inl l1), (2, .inl l2), (3, .inl l3)])) (st' := [.inl (σ.2.1 49 0 l1.toNatClampNeg), .inl (5 * l1), .inl l3]) (σ' := σ) (fun _ => rfl) hz ?_
  refine q_ex_br 2 (c := ((5 * l1) + (σ.2.1 49 0 l1.toNatClampNeg)) ≤ l3) (pc1 := 112) (pc2 := 92) (L' := (q_L [(0, .inr (.inr (some (24, 0)))), (1, .inl l1), (2, .inl l2), (3, .inl l3)])) (st' := []) (σ' := σ) (fun _ => rfl) (fun hc => ?_) (fun hc => ?_)
  · rw [if_pos hc] at h
    refine q_ex_go 1 (pc' := 113) (L' := (q_L [(0, .inr (.inr (some (24, 0)))), (1, .inl l1), (2, .inl l2), (3, .inl l3)])) (st' := [.inl l2]) (σ' := σ) (fun _ => rfl) ?_
    cases h
    exact ⟨1, rfl⟩
  · rw [if_neg hc] at h
    refine q_by h (fun hz h => ?_)
    refine q_ex_gb 9 (pc' := 105) (L' := (q_L [(0, .inr (.inr (some (24, 0)))), (1, .inl l1), (2, .inl l2), (3, .inl l3)])) (st' := [.inl (σ.2.1 50 0 (l3 + 1).toNatClampNeg), .inl l3, .inr (.inr (some (50, 0)))]) (σ' := σ) (fun _ => rfl) hz ?_
    refine q_by h (fun hz h => ?_)
    refine q_ex_gb 1 (pc' := 106) (L' := (q_L [(0, .inr (.inr (some (24, 0)))), (1, .inl l1), (2, .inl l2), (3, .inl l3)])) (st' := []) (σ' := (q_sA σ 50 0 (upd (σ.2.1 50 0) l3.toNatClampNeg (σ.2.1 50 0 (l3 + 1).toNatClampNeg)))) (fun _ => rfl) hz ?_
    refine q_nm (G := fun τ => q_ex q_pr n _ 84 106 (q_L [(0, .inr (.inr (some (24, 0)))), (1, .inl l1), (2, .inl l2), (3, .inl l3)]) [] τ _) h (fun σ3 h => ?_)
    refine q_ex_go 2 (pc' := 78) (L' := (q_s1 (q_L [(0, .inr (.inr (some (24, 0)))), (1, .inl l1), (2, .inl l2), (3, .inl l3)]) 3 (.inl (l3 + 1)))) (st' := []) (σ' := σ3) (fun _ => rfl) ?_
    exact q_ex_ll (hk78 h) ⟨rfl, rfl, rfl, rfl, trivial⟩
theorem M_collect_L78_e {n : Nat} {r0 : (Int32) × J} (f : Nat) : ∀ {l1 : Int32} {l2 : Int32} {l3 : Int32} {σ : J}, M_collect_L78 n f l1 l2 l3 σ = some r0 → q_ex q_pr n 0 84 78 (q_L [(0, .inr (.inr (some (24, 0)))), (1, .inl l1), (2, .inl l2), (3, .inl l3)]) [] σ (M_collect_r r0) := by
  induction f with
  | zero => intro l1 l2 l3 σ h; cases h
  | succ f ih =>
    intro l1 l2 l3 σ h
    exact M_collect_b78_e (f := f)  (fun h => ih h) h
theorem M_collect_b54_e {n : Nat} {r0 : (Int32) × J} {f : Nat} {s0 : Int32} {σ : J} (h : M_collect_b54 n f s0 σ = some r0) : q_ex q_pr n 0 84 54 (q_L []) [.inl s0] σ (M_collect_r r0) := by
  unfold M_collect_b54 at h
  cases h
  exact ⟨1, rfl⟩
theorem M_collect_b18_e {n : Nat} {r0 : (Int32) × J} {f : Nat} {l1 : Int32} {s1 : Int32} {σ : J} (h : M_collect_b18 n f l1 s1 σ = some r0) : q_ex q_pr n 0 84 18 (q_L [(0, .inr (.inr (some (24, 0)))), (1, .inl l1)]) [.inl s1, .inr (.inr (some (24, 0)))] σ (M_collect_r r0) := by
  unfold M_collect_b18 at h
  refine q_ex_go 1 (pc' := 21) (L' := (q_L [(0, .inr (.inr (some (24, 0)))), (1, .inl l1)])) (st' := []) (σ' := (q_sI σ 24 0 0 s1)) (fun _ => rfl) ?_
  refine q_nm (G := fun τ => q_ex q_pr n _ 84 21 (q_L [(0, .inr (.inr (some (24, 0)))), (1, .inl l1)]) [] τ _) h (fun σ1 h => ?_)
  refine q_ex_br 3 (c := (σ1.1 24 0 0) ≤ 0) (pc1 := 30) (pc2 := 28) (L' := (q_L [(0, .inr (.inr (some (24, 0)))), (1, .inl l1)])) (st' := []) (σ' := σ1) (fun _ => rfl) (fun hc => ?_) (fun hc => ?_)
  · rw [if_pos hc] at h
    refine q_by h (fun hz h => ?_)
    refine q_ex_gb 4 (pc' := 36) (L' := (q_L [(0, .inr (.inr (some (24, 0)))), (1, .inl l1)])) (st' := [.inl (σ1.2.1 49 0 l1.toNatClampNeg)]) (σ' := σ1) (fun _ => rfl) hz ?_
    refine q_ex_br 1 (c := (σ1.2.1 49 0 l1.toNatClampNeg) = 0) (pc1 := 39) (pc2 := 55) (L' := (q_L [(0, .inr (.inr (some (24, 0)))), (1, .inl l1)])) (st' := []) (σ' := σ1) (fun _ => rfl) (fun hc => ?_) (fun hc => ?_)
    · rw [if_pos hc] at h
      refine q_by h (fun hz h => ?_)
      refine q_ex_gb 4 (pc' := 45) (L' := (q_L [(0, .inr (.inr (some (24, 0)))), (1, .inl l1)])) (st' := [.inl (σ1.2.1 51 0 l1.toNatClampNeg)]) (σ' := σ1) (fun _ => rfl) hz ?_
      refine q_ex_br 1 (c := (σ1.2.1 51 0 l1.toNatClampNeg) = 0) (pc1 := 53) (pc2 := 48) (L' := (q_L [(0, .inr (.inr (some (24, 0)))), (1, .inl l1)])) (st' := []) (σ' := σ1) (fun _ => rfl) (fun hc => ?_) (fun hc => ?_)
      · rw [if_pos hc] at h
        refine q_ex_go 1 (pc' := 54) (L' := (q_L [(0, .inr (.inr (some (24, 0)))), (1, .inl l1)])) (st' := [.inl (-1)]) (σ' := σ1) (fun _ => rfl) ?_
        exact q_ex_ll (M_collect_b54_e h) trivial
      · rw [if_neg hc] at h
        refine q_ex_go 2 (pc' := 54) (L' := (q_L [(0, .inr (.inr (some (24, 0)))), (1, .inl l1)])) (st' := [.inl (-2)]) (σ' := σ1) (fun _ => rfl) ?_
        exact q_ex_ll (M_collect_b54_e h) trivial
    · rw [if_neg hc] at h
      refine q_by h (fun hz h => ?_)
      refine q_ex_gb 6 (pc' := 63) (L' := (q_L [(0, .inr (.inr (some (24, 0)))), (1, .inl l1)])) (st' := [.inl (σ1.2.1 50 0 (5 * l1).toNatClampNeg)]) (σ' := σ1) (fun _ => rfl) hz ?_
      refine q_by h (fun hz h => ?_)
      refine q_ex_gb 6 (pc' := 71) (L' := (q_s1 (q_L [(0, .inr (.inr (some (24, 0)))), (1, .inl l1)]) 2 (.inl (σ1.2.1 50 0 (5 * l1).toNatClampNeg)))) (st' := [.inl (σ1.2.1 49 0 l1.toNatClampNeg), .inl l1, .inr (.inr (some (49, 0)))]) (σ' := σ1) (fun _ => rfl) hz ?_
      refine q_by h (fun hz h => ?_)
      refine q_ex_gb 3 (pc' := 74) (L' := (q_s1 (q_L [(0, .inr (.inr (some (24, 0)))), (1, .inl l1)]) 2 (.inl (σ1.2.1 50 0 (5 * l1).toNatClampNeg)))) (st' := []) (σ' := (q_sA σ1 49 0 (upd (σ1.2.1 49 0) l1.toNatClampNeg ((σ1.2.1 49 0 l1.toNatClampNeg) - 1)))) (fun _ => rfl) hz ?_
      refine q_nm (G := fun τ => q_ex q_pr n _ 84 74 (q_s1 (q_L [(0, .inr (.inr (some (24, 0)))), (1, .inl l1)]) 2 (.inl (σ1.2.1 50 0 (5 * l1).toNatClampNeg))) [] τ _) h (fun σ2 h => ?_)
      refine q_ex_go 4 (pc' := 78) (L' := (q_s1 (q_s1 (q_L [(0, .inr (.inr (some (24, 0)))), (1, .inl l1)]) 2 (.inl (σ1.2.1 50 0 (5 * l1).toNatClampNeg))) 3 (.inl (5 * l1)))) (st' := []) (σ' := σ2) (fun _ => rfl) ?_
      exact q_ex_ll (M_collect_L78_e f h) ⟨rfl, rfl, rfl, rfl, trivial⟩
  · rw [if_neg hc] at h
    refine q_ex_go 1 (pc' := 29) (L' := (q_L [(0, .inr (.inr (some (24, 0)))), (1, .inl l1)])) (st' := [.inl 0]) (σ' := σ1) (fun _ => rfl) ?_
    cases h
    exact ⟨1, rfl⟩
theorem M_collect_b17_e {n : Nat} {r0 : (Int32) × J} {f : Nat} {l1 : Int32} {σ : J} (h : M_collect_b17 n f l1 σ = some r0) : q_ex q_pr n 0 84 17 (q_L [(0, .inr (.inr (some (24, 0)))), (1, .inl l1)]) [.inr (.inr (some (24, 0)))] σ (M_collect_r r0) := by
  unfold M_collect_b17 at h
  refine q_ex_go 1 (pc' := 18) (L' := (q_L [(0, .inr (.inr (some (24, 0)))), (1, .inl l1)])) (st' := [.inl 1, .inr (.inr (some (24, 0)))]) (σ' := σ) (fun _ => rfl) ?_
  exact q_ex_ll (M_collect_b18_e h) ⟨rfl, rfl, trivial⟩
theorem M_collect_b0_e {n : Nat} {r0 : (Int32) × J} {f : Nat} {l1 : Int32} {σ : J} (h : M_collect_b0 n f l1 σ = some r0) : q_ex q_pr n 0 84 0 (q_L [(0, .inr (.inr (some (24, 0)))), (1, .inl l1)]) [] σ (M_collect_r r0) := by
  unfold M_collect_b0 at h
  refine q_ex_br 3 (c := l1 < 0) (pc1 := 17) (pc2 := 5) (L' := (q_L [(0, .inr (.inr (some (24, 0)))), (1, .inl l1)])) (st' := [.inr (.inr (some (24, 0)))]) (σ' := σ) (fun _ => rfl) (fun hc => ?_) (fun hc => ?_)
  · rw [if_pos hc] at h
    exact q_ex_ll (M_collect_b17_e h) ⟨rfl, rfl, trivial⟩
  · rw [if_neg hc] at h
    refine q_ex_br 4 (c := (σ.1 24 30 0) ≤ l1) (pc1 := 17) (pc2 := 13) (L' := (q_L [(0, .inr (.inr (some (24, 0)))), (1, .inl l1)])) (st' := [.inr (.inr (some (24, 0)))]) (σ' := σ) (fun _ => rfl) (fun hc => ?_) (fun hc => ?_)
    · rw [if_pos hc] at h
      exact q_ex_ll (M_collect_b17_e h) ⟨rfl, rfl, trivial⟩
    · rw [if_neg hc] at h
      refine q_ex_go 2 (pc' := 18) (L' := (q_L [(0, .inr (.inr (some (24, 0)))), (1, .inl l1)])) (st' := [.inl 0, .inr (.inr (some (24, 0)))]) (σ' := σ) (fun _ => rfl) ?_
      exact q_ex_ll (M_collect_b18_e h) ⟨rfl, rfl, trivial⟩
theorem M_collect_e {n : Nat} {r0 : (Int32) × J} {f : Nat} {x1 : Int32} {σ : J} (h : M_collect n f x1 σ = some r0) : q_ex q_pr n 0 84 0 (q_args 0 [.inr (.inr (some (24, 0))), .inl x1]) [] σ (M_collect_r r0) := q_ex_ll (M_collect_b0_e h) ⟨rfl, rfl, trivial⟩
def M_commit_r : (Int32) × J → Res := fun q => (.inl (some (.inl q.1)), q.2)
-- 85: M_commit
def M_commit_b38 (n : Nat) (f : Nat) (s0 : Int32) (σ : J) : Option ((Int32) × J) := some (s0, σ)
def M_commit_b26 (n : Nat) (f : Nat) (σ : J) : Option ((Int32) × J) := if (σ.1 24 0 0) ≤ 0 then M_commit_b38 n f (-1) σ else M_commit_b38 n f 0 σ
def M_commit_b232 (n : Nat) (f : Nat) (l4 : Int32) (σ : J) : Option ((Int32) × J) := some (l4, σ)
def M_commit_b211 (n : Nat) (k63 : Int32 → Int32 → Int32 → Int32 → Int32 → J → Option ((Int32) × J)) (f : Nat) (l1 : Int32) (l2 : Int32) (l3 : Int32) (l4 : Int32) (l5 : Int32) (σ : J) : Option ((Int32) × J) := k63 l1 l2 l3 l4 l5 σ
def M_commit_b208 (n : Nat) (k63 : Int32 → Int32 → Int32 → Int32 → Int32 → J → Option ((Int32) × J)) (f : Nat) (l1 : Int32) (l2 : Int32) (l3 : Int32) (l4 : Int32) (l5 : Int32) (σ : J) : Option ((Int32) × J) := M_commit_b211 n k63 f l1 l2 l3 l4 (l5 + 1) σ
def M_commit_b191 (n : Nat) (k63 : Int32 → Int32 → Int32 → Int32 → Int32 → J → Option ((Int32) × J)) (f : Nat) (l1 : Int32) (l2 : Int32) (l3 : Int32) (l4 : Int32) (l5 : Int32) (l6 : Int32) (σ : J) : Option ((Int32) × J) := if l6 = 0 then M_commit_b208 n k63 f l1 l2 l3 l4 l5 σ else if l2 = 0 then (M_outside n f l5 σ).bind fun q10 => M_commit_b208 n k63 f l1 l2 1 l4 l5 q10 else M_commit_b208 n k63 f l1 l2 l3 l4 l5 σ
def M_commit_b172 (n : Nat) (k63 : Int32 → Int32 → Int32 → Int32 → Int32 → J → Option ((Int32) × J)) (f : Nat) (l1 : Int32) (l2 : Int32) (l3 : Int32) (l4 : Int32) (l5 : Int32) (l6 : Int32) (l7 : Int32) (s1 : Int32) (s2 : Int32) (σ : J) : Option ((Int32) × J) := if q_in s1 20 = true then q_bs (q_sA σ 31 0 (upd (σ.2.1 31 0) s1.toNatClampNeg s2)) fun σ8 => if l7 = 0 then M_commit_b191 n k63 f l1 l2 l3 l4 l5 l6 σ8 else if l2 = 0 then (M_remove n f l5 σ8).bind fun q9 => M_commit_b211 n k63 f l1 l2 l3 l4 l5 q9 else M_commit_b191 n k63 f l1 l2 l3 l4 l5 l6 σ8 else none
def M_commit_b141 (n : Nat) (k63 : Int32 → Int32 → Int32 → Int32 → Int32 → J → Option ((Int32) × J)) (f : Nat) (l1 : Int32) (l2 : Int32) (l3 : Int32) (l4 : Int32) (l5 : Int32) (l6 : Int32) (l7 : Int32) (s1 : Int32) (s2 : Int32) (σ : J) : Option ((Int32) × J) := if q_in s1 20 = true then q_bs (q_sA σ 29 0 (upd (σ.2.1 29 0) s1.toNatClampNeg s2)) fun σ7 => if l7 = 0 then if q_in l5 20 = true then M_commit_b172 n k63 f l1 l2 l3 l4 l5 l6 l7 l5 (σ7.2.1 31 0 l5.toNatClampNeg) σ7 else none else if q_in l5 20 = true then M_commit_b172 n k63 f l1 l2 l3 l4 l5 l6 l7 l5 ((σ7.2.1 31 0 l5.toNatClampNeg) - 1) σ7 else none else none
def M_commit_b109 (n : Nat) (k63 : Int32 → Int32 → Int32 → Int32 → Int32 → J → Option ((Int32) × J)) (f : Nat) (l1 : Int32) (l2 : Int32) (l3 : Int32) (l5 : Int32) (l6 : Int32) (l7 : Int32) (s0 : Int32) (σ : J) : Option ((Int32) × J) := if l6 = 0 then if q_in l5 20 = true then M_commit_b141 n k63 f l1 l2 l3 s0 l5 l6 l7 l5 (σ.2.1 29 0 l5.toNatClampNeg) σ else none else if q_in l5 20 = true then M_commit_b141 n k63 f l1 l2 l3 s0 l5 l6 l7 l5 ((σ.2.1 29 0 l5.toNatClampNeg) - 1) σ else none
def M_commit_b100 (n : Nat) (k63 : Int32 → Int32 → Int32 → Int32 → Int32 → J → Option ((Int32) × J)) (f : Nat) (l1 : Int32) (l2 : Int32) (l3 : Int32) (l4 : Int32) (l5 : Int32) (l6 : Int32) (l7 : Int32) (σ : J) : Option ((Int32) × J) := M_commit_b109 n k63 f l1 l2 l3 l5 l6 l7 (l4 + 1) σ
def M_commit_b63 (n : Nat) (k63 : Int32 → Int32 → Int32 → Int32 → Int32 → J → Option ((Int32) × J)) (f : Nat) (l1 : Int32) (l2 : Int32) (l3 : Int32) (l4 : Int32) (l5 : Int32) (σ : J) : Option ((Int32) × J) := if (σ.1 24 1 0) ≤ l5 then if q_in l1 4 = true then if q_in l1 4 = true then q_bs (q_sA σ 34 0 (upd (σ.2.1 34 0) l1.toNatClampNeg ((σ.2.1 34 0 l1.toNatClampNeg) - 1))) fun σ3 => if l3 = 0 then M_commit_b232 n f l4 σ3 else (M_serve n f σ3).bind fun q4 => M_commit_b232 n f l4 q4 else none else none else (M_isPut n l1 l5 σ).bind fun q5 => (M_isTaken n l1 l5 q5.2).bind fun q6 => if q5.1 = 0 then if q6.1 = 0 then M_commit_b109 n k63 f l1 l2 l3 l5 q5.1 q6.1 l4 q6.2 else M_commit_b100 n k63 f l1 l2 l3 l4 l5 q5.1 q6.1 q6.2 else M_commit_b100 n k63 f l1 l2 l3 l4 l5 q5.1 q6.1 q6.2
def M_commit_L63 (n : Nat) : Nat → Int32 → Int32 → Int32 → Int32 → Int32 → J → Option ((Int32) × J)
  | 0 => fun _ _ _ _ _ _ => none
  | f + 1 => fun l1 l2 l3 l4 l5 σ => M_commit_b63 n (M_commit_L63 n f) f l1 l2 l3 l4 l5 σ
def M_commit_b54 (n : Nat) (f : Nat) (l1 : Int32) (s0 : Int32) (σ : J) : Option ((Int32) × J) := M_commit_L63 n f l1 s0 0 0 0 σ
def M_commit_b0 (n : Nat) (f : Nat) (l1 : Int32) (σ : J) : Option ((Int32) × J) := (M_first n f l1 1 σ).bind fun q1 => q_bs (q_sI q1.2 24 0 0 q1.1) fun σ2 => if 0 < (σ2.1 24 0 0) then M_commit_b26 n f σ2 else if q_in l1 4 = true then if (σ2.2.1 34 0 l1.toNatClampNeg) = 0 then M_commit_b26 n f σ2 else if q_in l1 4 = true then if (σ2.2.1 34 0 l1.toNatClampNeg) ≤ 1 then M_commit_b54 n f l1 0 σ2 else M_commit_b54 n f l1 1 σ2 else none else none
def M_commit (n : Nat) (f : Nat) (x1 : Int32) (σ : J) : Option ((Int32) × J) := M_commit_b0 n f x1 σ
theorem M_commit_b38_e {n : Nat} {r0 : (Int32) × J} {f : Nat} {s0 : Int32} {σ : J} (h : M_commit_b38 n f s0 σ = some r0) : q_ex q_pr n 6 85 38 (q_L []) [.inl s0] σ (M_commit_r r0) := by
  unfold M_commit_b38 at h
  cases h
  exact ⟨1, rfl⟩
theorem M_commit_b26_e {n : Nat} {r0 : (Int32) × J} {f : Nat} {σ : J} (h : M_commit_b26 n f σ = some r0) : q_ex q_pr n 6 85 26 (q_L [(0, .inr (.inr (some (24, 0))))]) [] σ (M_commit_r r0) := by
  unfold M_commit_b26 at h
  refine q_ex_br 3 (c := (σ.1 24 0 0) ≤ 0) (pc1 := 37) (pc2 := 33) (L' := (q_L [(0, .inr (.inr (some (24, 0))))])) (st' := []) (σ' := σ) (fun _ => rfl) (fun hc => ?_) (fun hc => ?_)
  · rw [if_pos hc] at h
    refine q_ex_go 1 (pc' := 38) (L' := (q_L [(0, .inr (.inr (some (24, 0))))])) (st' := [.inl (-1)]) (σ' := σ) (fun _ => rfl) ?_
    exact q_ex_ll (M_commit_b38_e h) trivial
  · rw [if_neg hc] at h
    refine q_ex_go 2 (pc' := 38) (L' := (q_L [(0, .inr (.inr (some (24, 0))))])) (st' := [.inl 0]) (σ' := σ) (fun _ => rfl) ?_
    exact q_ex_ll (M_commit_b38_e h) trivial
theorem M_commit_b232_e {n : Nat} {r0 : (Int32) × J} {f : Nat} {l4 : Int32} {σ : J} (h : M_commit_b232 n f l4 σ = some r0) : q_ex q_pr n 6 85 232 (q_L [(4, .inl l4)]) [] σ (M_commit_r r0) := by
  unfold M_commit_b232 at h
  refine q_ex_go 1 (pc' := 234) (L' := (q_L [(4, .inl l4)])) (st' := [.inl l4]) (σ' := σ) (fun _ => rfl) ?_
  cases h
  exact ⟨1, rfl⟩
theorem M_commit_b211_e {n : Nat} {r0 : (Int32) × J} {k63 : Int32 → Int32 → Int32 → Int32 → Int32 → J → Option ((Int32) × J)} {f : Nat} {l1 : Int32} {l2 : Int32} {l3 : Int32} {l4 : Int32} {l5 : Int32} {σ : J} (hk63 : ∀ {l1 : Int32} {l2 : Int32} {l3 : Int32} {l4 : Int32} {l5 : Int32} {σ : J}, k63 l1 l2 l3 l4 l5 σ = some r0 → q_ex q_pr n 6 85 63 (q_L [(0, .inr (.inr (some (24, 0)))), (1, .inl l1), (2, .inl l2), (3, .inl l3), (4, .inl l4), (5, .inl l5)]) [] σ (M_commit_r r0)) (h : M_commit_b211 n k63 f l1 l2 l3 l4 l5 σ = some r0) : q_ex q_pr n 6 85 211 (q_L [(0, .inr (.inr (some (24, 0)))), (1, .inl l1), (2, .inl l2), (3, .inl l3), (4, .inl l4), (5, .inl l5)]) [] σ (M_commit_r r0) := by
  unfold M_commit_b211 at h
  refine q_ex_go 1 (pc' := 63) (L' := (q_L [(0, .inr (.inr (some (24, 0)))), (1, .inl l1), (2, .inl l2), (3, .inl l3), (4, .inl l4), (5, .inl l5)])) (st' := []) (σ' := σ) (fun _ => rfl) ?_
  exact q_ex_ll (hk63 h) ⟨rfl, rfl, rfl, rfl, rfl, rfl, trivial⟩
theorem M_commit_b208_e {n : Nat} {r0 : (Int32) × J} {k63 : Int32 → Int32 → Int32 → Int32 → Int32 → J → Option ((Int32) × J)} {f : Nat} {l1 : Int32} {l2 : Int32} {l3 : Int32} {l4 : Int32} {l5 : Int32} {σ : J} (hk63 : ∀ {l1 : Int32} {l2 : Int32} {l3 : Int32} {l4 : Int32} {l5 : Int32} {σ : J}, k63 l1 l2 l3 l4 l5 σ = some r0 → q_ex q_pr n 6 85 63 (q_L [(0, .inr (.inr (some (24, 0)))), (1, .inl l1), (2, .inl l2), (3, .inl l3), (4, .inl l4), (5, .inl l5)]) [] σ (M_commit_r r0)) (h : M_commit_b208 n k63 f l1 l2 l3 l4 l5 σ = some r0) : q_ex q_pr n 6 85 208 (q_L [(0, .inr (.inr (some (24, 0)))), (1, .inl l1), (2, .inl l2), (3, .inl l3), (4, .inl l4), (5, .inl l5)]) [] σ (M_commit_r r0) := by
  unfold M_commit_b208 at h
  refine q_ex_go 1 (pc' := 211) (L' := (q_s1 (q_L [(0, .inr (.inr (some (24, 0)))), (1, .inl l1), (2, .inl l2), (3, .inl l3), (4, .inl l4), (5, .inl l5)]) 5 (.inl (l5 + 1)))) (st' := []) (σ' := σ) (fun _ => rfl) ?_
  exact q_ex_ll (M_commit_b211_e hk63 h) ⟨rfl, rfl, rfl, rfl, rfl, rfl, trivial⟩
theorem M_commit_b191_e {n : Nat} {r0 : (Int32) × J} {k63 : Int32 → Int32 → Int32 → Int32 → Int32 → J → Option ((Int32) × J)} {f : Nat} {l1 : Int32} {l2 : Int32} {l3 : Int32} {l4 : Int32} {l5 : Int32} {l6 : Int32} {σ : J} (hk63 : ∀ {l1 : Int32} {l2 : Int32} {l3 : Int32} {l4 : Int32} {l5 : Int32} {σ : J}, k63 l1 l2 l3 l4 l5 σ = some r0 → q_ex q_pr n 6 85 63 (q_L [(0, .inr (.inr (some (24, 0)))), (1, .inl l1), (2, .inl l2), (3, .inl l3), (4, .inl l4), (5, .inl l5)]) [] σ (M_commit_r r0)) (h : M_commit_b191 n k63 f l1 l2 l3 l4 l5 l6 σ = some r0) : q_ex q_pr n 6 85 191 (q_L [(0, .inr (.inr (some (24, 0)))), (1, .inl l1), (2, .inl l2), (3, .inl l3), (4, .inl l4), (5, .inl l5), (6, .inl l6)]) [] σ (M_commit_r r0) := by
  unfold M_commit_b191 at h
  refine q_ex_br 2 (c := l6 = 0) (pc1 := 208) (pc2 := 196) (L' := (q_L [(0, .inr (.inr (some (24, 0)))), (1, .inl l1), (2, .inl l2), (3, .inl l3), (4, .inl l4), (5, .inl l5), (6, .inl l6)])) (st' := []) (σ' := σ) (fun _ => rfl) (fun hc => ?_) (fun hc => ?_)
  · rw [if_pos hc] at h
    exact q_ex_ll (M_commit_b208_e hk63 h) ⟨rfl, rfl, rfl, rfl, rfl, rfl, trivial⟩
  · rw [if_neg hc] at h
    refine q_ex_br 2 (c := l2 = 0) (pc1 := 200) (pc2 := 208) (L' := (q_L [(0, .inr (.inr (some (24, 0)))), (1, .inl l1), (2, .inl l2), (3, .inl l3), (4, .inl l4), (5, .inl l5), (6, .inl l6)])) (st' := []) (σ' := σ) (fun _ => rfl) (fun hc => ?_) (fun hc => ?_)
    · rw [if_pos hc] at h
      obtain ⟨q10, hq10, h⟩ := Option.bind_eq_some_iff.mp h
      refine q_ex_ca 3 (k1 := 106) (vs := [.inr (.inr (some (24, 0))), .inl l5]) (pc' := 206) (L' := (q_L [(0, .inr (.inr (some (24, 0)))), (1, .inl l1), (2, .inl l2), (3, .inl l3), (4, .inl l4), (5, .inl l5), (6, .inl l6)])) (rest := []) (σ' := σ) (fun _ => rfl) (q_ex_dd (M_outside_e hq10) (Nat.le_of_ble_eq_true rfl)) rfl ?_
      refine q_ex_go 2 (pc' := 208) (L' := (q_s1 (q_L [(0, .inr (.inr (some (24, 0)))), (1, .inl l1), (2, .inl l2), (3, .inl l3), (4, .inl l4), (5, .inl l5), (6, .inl l6)]) 3 (.inl 1))) (st' := []) (σ' := q10) (fun _ => rfl) ?_
      exact q_ex_ll (M_commit_b208_e hk63 h) ⟨rfl, rfl, rfl, rfl, rfl, rfl, trivial⟩
    · rw [if_neg hc] at h
      exact q_ex_ll (M_commit_b208_e hk63 h) ⟨rfl, rfl, rfl, rfl, rfl, rfl, trivial⟩
theorem M_commit_b172_e {n : Nat} {r0 : (Int32) × J} {k63 : Int32 → Int32 → Int32 → Int32 → Int32 → J → Option ((Int32) × J)} {f : Nat} {l1 : Int32} {l2 : Int32} {l3 : Int32} {l4 : Int32} {l5 : Int32} {l6 : Int32} {l7 : Int32} {s1 : Int32} {s2 : Int32} {σ : J} (hk63 : ∀ {l1 : Int32} {l2 : Int32} {l3 : Int32} {l4 : Int32} {l5 : Int32} {σ : J}, k63 l1 l2 l3 l4 l5 σ = some r0 → q_ex q_pr n 6 85 63 (q_L [(0, .inr (.inr (some (24, 0)))), (1, .inl l1), (2, .inl l2), (3, .inl l3), (4, .inl l4), (5, .inl l5)]) [] σ (M_commit_r r0)) (h : M_commit_b172 n k63 f l1 l2 l3 l4 l5 l6 l7 s1 s2 σ = some r0) : q_ex q_pr n 6 85 172 (q_L [(0, .inr (.inr (some (24, 0)))), (1, .inl l1), (2, .inl l2), (3, .inl l3), (4, .inl l4), (5, .inl l5), (6, .inl l6), (7, .inl l7)]) [.inl s2, .inl s1, .inr (.inr (some (31, 0)))] σ (M_commit_r r0) := by
  unfold M_commit_b172 at h
  refine q_by h (fun hz h => ?_)
  refine q_ex_gb 1 (pc' := 173) (L' := (q_L [(0, .inr (.inr (some (24, 0)))), (1, .inl l1), (2, .inl l2), (3, .inl l3), (4, .inl l4), (5, .inl l5), (6, .inl l6), (7, .inl l7)])) (st' := []) (σ' := (q_sA σ 31 0 (upd (σ.2.1 31 0) s1.toNatClampNeg s2))) (fun _ => rfl) hz ?_
  refine q_nm (G := fun τ => q_ex q_pr n _ 85 173 (q_L [(0, .inr (.inr (some (24, 0)))), (1, .inl l1), (2, .inl l2), (3, .inl l3), (4, .inl l4), (5, .inl l5), (6, .inl l6), (7, .inl l7)]) [] τ _) h (fun σ8 h => ?_)
  refine q_ex_br 2 (c := l7 = 0) (pc1 := 191) (pc2 := 178) (L' := (q_L [(0, .inr (.inr (some (24, 0)))), (1, .inl l1), (2, .inl l2), (3, .inl l3), (4, .inl l4), (5, .inl l5), (6, .inl l6), (7, .inl l7)])) (st' := []) (σ' := σ8) (fun _ => rfl) (fun hc => ?_) (fun hc => ?_)
  · rw [if_pos hc] at h
    exact q_ex_ll (M_commit_b191_e hk63 h) ⟨rfl, rfl, rfl, rfl, rfl, rfl, rfl, trivial⟩
  · rw [if_neg hc] at h
    refine q_ex_br 2 (c := l2 = 0) (pc1 := 182) (pc2 := 191) (L' := (q_L [(0, .inr (.inr (some (24, 0)))), (1, .inl l1), (2, .inl l2), (3, .inl l3), (4, .inl l4), (5, .inl l5), (6, .inl l6), (7, .inl l7)])) (st' := []) (σ' := σ8) (fun _ => rfl) (fun hc => ?_) (fun hc => ?_)
    · rw [if_pos hc] at h
      obtain ⟨q9, hq9, h⟩ := Option.bind_eq_some_iff.mp h
      refine q_ex_ca 3 (k1 := 110) (vs := [.inr (.inr (some (24, 0))), .inl l5]) (pc' := 188) (L' := (q_L [(0, .inr (.inr (some (24, 0)))), (1, .inl l1), (2, .inl l2), (3, .inl l3), (4, .inl l4), (5, .inl l5), (6, .inl l6), (7, .inl l7)])) (rest := []) (σ' := σ8) (fun _ => rfl) (q_ex_dd (M_remove_e hq9) (Nat.le_of_ble_eq_true rfl)) rfl ?_
      refine q_ex_go 1 (pc' := 211) (L' := (q_L [(0, .inr (.inr (some (24, 0)))), (1, .inl l1), (2, .inl l2), (3, .inl l3), (4, .inl l4), (5, .inl l5), (6, .inl l6), (7, .inl l7)])) (st' := []) (σ' := q9) (fun _ => rfl) ?_
      exact q_ex_ll (M_commit_b211_e hk63 h) ⟨rfl, rfl, rfl, rfl, rfl, rfl, trivial⟩
    · rw [if_neg hc] at h
      exact q_ex_ll (M_commit_b191_e hk63 h) ⟨rfl, rfl, rfl, rfl, rfl, rfl, rfl, trivial⟩
theorem M_commit_b141_e {n : Nat} {r0 : (Int32) × J} {k63 : Int32 → Int32 → Int32 → Int32 → Int32 → J → Option ((Int32) × J)} {f : Nat} {l1 : Int32} {l2 : Int32} {l3 : Int32} {l4 : Int32} {l5 : Int32} {l6 : Int32} {l7 : Int32} {s1 : Int32} {s2 : Int32} {σ : J} (hk63 : ∀ {l1 : Int32} {l2 : Int32} {l3 : Int32} {l4 : Int32} {l5 : Int32} {σ : J}, k63 l1 l2 l3 l4 l5 σ = some r0 → q_ex q_pr n 6 85 63 (q_L [(0, .inr (.inr (some (24, 0)))), (1, .inl l1), (2, .inl l2), (3, .inl l3), (4, .inl l4), (5, .inl l5)]) [] σ (M_commit_r r0)) (h : M_commit_b141 n k63 f l1 l2 l3 l4 l5 l6 l7 s1 s2 σ = some r0) : q_ex q_pr n 6 85 141 (q_L [(0, .inr (.inr (some (24, 0)))), (1, .inl l1), (2, .inl l2), (3, .inl l3), (4, .inl l4), (5, .inl l5), (6, .inl l6), (7, .inl l7)]) [.inl s2, .inl s1, .inr (.inr (some (29, 0)))] σ (M_commit_r r0) := by
  unfold M_commit_b141 at h
  refine q_by h (fun hz h => ?_)
  refine q_ex_gb 1 (pc' := 142) (L' := (q_L [(0, .inr (.inr (some (24, 0)))), (1, .inl l1), (2, .inl l2), (3, .inl l3), (4, .inl l4), (5, .inl l5), (6, .inl l6), (7, .inl l7)])) (st' := []) (σ' := (q_sA σ 29 0 (upd (σ.2.1 29 0) s1.toNatClampNeg s2))) (fun _ => rfl) hz ?_
  refine q_nm (G := fun τ => q_ex q_pr n _ 85 142 (q_L [(0, .inr (.inr (some (24, 0)))), (1, .inl l1), (2, .inl l2), (3, .inl l3), (4, .inl l4), (5, .inl l5), (6, .inl l6), (7, .inl l7)]) [] τ _) h (fun σ7 h => ?_)
  refine q_ex_br 5 (c := l7 = 0) (pc1 := 165) (pc2 := 153) (L' := (q_L [(0, .inr (.inr (some (24, 0)))), (1, .inl l1), (2, .inl l2), (3, .inl l3), (4, .inl l4), (5, .inl l5), (6, .inl l6), (7, .inl l7)])) (st' := [.inl l5, .inr (.inr (some (31, 0)))]) (σ' := σ7) (fun _ => rfl) (fun hc => ?_) (fun hc => ?_)
  · rw [if_pos hc] at h
    refine q_by h (fun hz h => ?_)
    refine q_ex_gb 4 (pc' := 172) (L' := (q_L [(0, .inr (.inr (some (24, 0)))), (1, .inl l1), (2, .inl l2), (3, .inl l3), (4, .inl l4), (5, .inl l5), (6, .inl l6), (7, .inl l7)])) (st' := [.inl (σ7.2.1 31 0 l5.toNatClampNeg), .inl l5, .inr (.inr (some (31, 0)))]) (σ' := σ7) (fun _ => rfl) hz ?_
    exact q_ex_ll (M_commit_b172_e hk63 h) ⟨rfl, rfl, rfl, rfl, rfl, rfl, rfl, rfl, trivial⟩
  · rw [if_neg hc] at h
    refine q_by h (fun hz h => ?_)
    refine q_ex_gb 4 (pc' := 160) (L' := (q_L [(0, .inr (.inr (some (24, 0)))), (1, .inl l1), (2, .inl l2), (3, .inl l3), (4, .inl l4), (5, .inl l5), (6, .inl l6), (7, .inl l7)])) (st' := [.inl (σ7.2.1 31 0 l5.toNatClampNeg), .inl l5, .inr (.inr (some (31, 0)))]) (σ' := σ7) (fun _ => rfl) hz ?_
    refine q_ex_go 3 (pc' := 172) (L' := (q_L [(0, .inr (.inr (some (24, 0)))), (1, .inl l1), (2, .inl l2), (3, .inl l3), (4, .inl l4), (5, .inl l5), (6, .inl l6), (7, .inl l7)])) (st' := [.inl ((σ7.2.1 31 0 l5.toNatClampNeg) - 1), .inl l5, .inr (.inr (some (31, 0)))]) (σ' := σ7) (fun _ => rfl) ?_
    exact q_ex_ll (M_commit_b172_e hk63 h) ⟨rfl, rfl, rfl, rfl, rfl, rfl, rfl, rfl, trivial⟩
theorem M_commit_b109_e {n : Nat} {r0 : (Int32) × J} {k63 : Int32 → Int32 → Int32 → Int32 → Int32 → J → Option ((Int32) × J)} {f : Nat} {l1 : Int32} {l2 : Int32} {l3 : Int32} {l5 : Int32} {l6 : Int32} {l7 : Int32} {s0 : Int32} {σ : J} (hk63 : ∀ {l1 : Int32} {l2 : Int32} {l3 : Int32} {l4 : Int32} {l5 : Int32} {σ : J}, k63 l1 l2 l3 l4 l5 σ = some r0 → q_ex q_pr n 6 85 63 (q_L [(0, .inr (.inr (some (24, 0)))), (1, .inl l1), (2, .inl l2), (3, .inl l3), (4, .inl l4), (5, .inl l5)]) [] σ (M_commit_r r0)) (h : M_commit_b109 n k63 f l1 l2 l3 l5 l6 l7 s0 σ = some r0) : q_ex q_pr n 6 85 109 (q_L [(0, .inr (.inr (some (24, 0)))), (1, .inl l1), (2, .inl l2), (3, .inl l3), (5, .inl l5), (6, .inl l6), (7, .inl l7)]) [.inl s0] σ (M_commit_r r0) := by
  unfold M_commit_b109 at h
  refine q_ex_br 6 (c := l6 = 0) (pc1 := 134) (pc2 := 122) (L' := (q_s1 (q_L [(0, .inr (.inr (some (24, 0)))), (1, .inl l1), (2, .inl l2), (3, .inl l3), (5, .inl l5), (6, .inl l6), (7, .inl l7)]) 4 (.inl s0))) (st' := [.inl l5, .inr (.inr (some (29, 0)))]) (σ' := σ) (fun _ => rfl) (fun hc => ?_) (fun hc => ?_)
  · rw [if_pos hc] at h
    refine q_by h (fun hz h => ?_)
    refine q_ex_gb 4 (pc' := 141) (L' := (q_s1 (q_L [(0, .inr (.inr (some (24, 0)))), (1, .inl l1), (2, .inl l2), (3, .inl l3), (5, .inl l5), (6, .inl l6), (7, .inl l7)]) 4 (.inl s0))) (st' := [.inl (σ.2.1 29 0 l5.toNatClampNeg), .inl l5, .inr (.inr (some (29, 0)))]) (σ' := σ) (fun _ => rfl) hz ?_
    exact q_ex_ll (M_commit_b141_e hk63 h) ⟨rfl, rfl, rfl, rfl, rfl, rfl, rfl, rfl, trivial⟩
  · rw [if_neg hc] at h
    refine q_by h (fun hz h => ?_)
    refine q_ex_gb 4 (pc' := 129) (L' := (q_s1 (q_L [(0, .inr (.inr (some (24, 0)))), (1, .inl l1), (2, .inl l2), (3, .inl l3), (5, .inl l5), (6, .inl l6), (7, .inl l7)]) 4 (.inl s0))) (st' := [.inl (σ.2.1 29 0 l5.toNatClampNeg), .inl l5, .inr (.inr (some (29, 0)))]) (σ' := σ) (fun _ => rfl) hz ?_
    refine q_ex_go 3 (pc' := 141) (L' := (q_s1 (q_L [(0, .inr (.inr (some (24, 0)))), (1, .inl l1), (2, .inl l2), (3, .inl l3), (5, .inl l5), (6, .inl l6), (7, .inl l7)]) 4 (.inl s0))) (st' := [.inl ((σ.2.1 29 0 l5.toNatClampNeg) - 1), .inl l5, .inr (.inr (some (29, 0)))]) (σ' := σ) (fun _ => rfl) ?_
    exact q_ex_ll (M_commit_b141_e hk63 h) ⟨rfl, rfl, rfl, rfl, rfl, rfl, rfl, rfl, trivial⟩
theorem M_commit_b100_e {n : Nat} {r0 : (Int32) × J} {k63 : Int32 → Int32 → Int32 → Int32 → Int32 → J → Option ((Int32) × J)} {f : Nat} {l1 : Int32} {l2 : Int32} {l3 : Int32} {l4 : Int32} {l5 : Int32} {l6 : Int32} {l7 : Int32} {σ : J} (hk63 : ∀ {l1 : Int32} {l2 : Int32} {l3 : Int32} {l4 : Int32} {l5 : Int32} {σ : J}, k63 l1 l2 l3 l4 l5 σ = some r0 → q_ex q_pr n 6 85 63 (q_L [(0, .inr (.inr (some (24, 0)))), (1, .inl l1), (2, .inl l2), (3, .inl l3), (4, .inl l4), (5, .inl l5)]) [] σ (M_commit_r r0)) (h : M_commit_b100 n k63 f l1 l2 l3 l4 l5 l6 l7 σ = some r0) : q_ex q_pr n 6 85 100 (q_L [(0, .inr (.inr (some (24, 0)))), (1, .inl l1), (2, .inl l2), (3, .inl l3), (4, .inl l4), (5, .inl l5), (6, .inl l6), (7, .inl l7)]) [] σ (M_commit_r r0) := by
  unfold M_commit_b100 at h
  refine q_ex_go 4 (pc' := 109) (L' := (q_L [(0, .inr (.inr (some (24, 0)))), (1, .inl l1), (2, .inl l2), (3, .inl l3), (4, .inl l4), (5, .inl l5), (6, .inl l6), (7, .inl l7)])) (st' := [.inl (l4 + 1)]) (σ' := σ) (fun _ => rfl) ?_
  exact q_ex_ll (M_commit_b109_e hk63 h) ⟨rfl, rfl, rfl, rfl, rfl, rfl, rfl, trivial⟩
theorem M_commit_b63_e {n : Nat} {r0 : (Int32) × J} {k63 : Int32 → Int32 → Int32 → Int32 → Int32 → J → Option ((Int32) × J)} {f : Nat} {l1 : Int32} {l2 : Int32} {l3 : Int32} {l4 : Int32} {l5 : Int32} {σ : J} (hk63 : ∀ {l1 : Int32} {l2 : Int32} {l3 : Int32} {l4 : Int32} {l5 : Int32} {σ : J}, k63 l1 l2 l3 l4 l5 σ = some r0 → q_ex q_pr n 6 85 63 (q_L [(0, .inr (.inr (some (24, 0)))), (1, .inl l1), (2, .inl l2), (3, .inl l3), (4, .inl l4), (5, .inl l5)]) [] σ (M_commit_r r0)) (h : M_commit_b63 n k63 f l1 l2 l3 l4 l5 σ = some r0) : q_ex q_pr n 6 85 63 (q_L [(0, .inr (.inr (some (24, 0)))), (1, .inl l1), (2, .inl l2), (3, .inl l3), (4, .inl l4), (5, .inl l5)]) [] σ (M_commit_r r0) := by
  unfold M_commit_b63 at h
  refine q_ex_br 4 (c := (σ.1 24 1 0) ≤ l5) (pc1 := 214) (pc2 := 72) (L' := (q_L [(0, .inr (.inr (some (24, 0)))), (1, .inl l1), (2, .inl l2), (3, .inl l3), (4, .inl l4), (5, .inl l5)])) (st' := []) (σ' := σ) (fun _ => rfl) (fun hc => ?_) (fun hc => ?_)
  · rw [if_pos hc] at h
    refine q_by h (fun hz h => ?_)
    refine q_ex_gb 5 (pc' := 221) (L' := (q_L [(0, .inr (.inr (some (24, 0)))), (1, .inl l1), (2, .inl l2), (3, .inl l3), (4, .inl l4), (5, .inl l5)])) (st' := [.inl (σ.2.1 34 0 l1.toNatClampNeg), .inl l1, .inr (.inr (some (34, 0)))]) (σ' := σ) (fun _ => rfl) hz ?_
    refine q_by h (fun hz h => ?_)
    refine q_ex_gb 3 (pc' := 224) (L' := (q_L [(0, .inr (.inr (some (24, 0)))), (1, .inl l1), (2, .inl l2), (3, .inl l3), (4, .inl l4), (5, .inl l5)])) (st' := []) (σ' := (q_sA σ 34 0 (upd (σ.2.1 34 0) l1.toNatClampNeg ((σ.2.1 34 0 l1.toNatClampNeg) - 1)))) (fun _ => rfl) hz ?_
    refine q_nm (G := fun τ => q_ex q_pr n _ 85 224 (q_L [(0, .inr (.inr (some (24, 0)))), (1, .inl l1), (2, .inl l2), (3, .inl l3), (4, .inl l4), (5, .inl l5)]) [] τ _) h (fun σ3 h => ?_)
    refine q_ex_br 2 (c := l3 = 0) (pc1 := 232) (pc2 := 228) (L' := (q_L [(0, .inr (.inr (some (24, 0)))), (1, .inl l1), (2, .inl l2), (3, .inl l3), (4, .inl l4), (5, .inl l5)])) (st' := []) (σ' := σ3) (fun _ => rfl) (fun hc => ?_) (fun hc => ?_)
    · rw [if_pos hc] at h
      exact q_ex_ll (M_commit_b232_e h) ⟨rfl, trivial⟩
    · rw [if_neg hc] at h
      obtain ⟨q4, hq4, h⟩ := Option.bind_eq_some_iff.mp h
      refine q_ex_ca 2 (k1 := 115) (vs := [.inr (.inr (some (24, 0)))]) (pc' := 232) (L' := (q_L [(0, .inr (.inr (some (24, 0)))), (1, .inl l1), (2, .inl l2), (3, .inl l3), (4, .inl l4), (5, .inl l5)])) (rest := []) (σ' := σ3) (fun _ => rfl) (q_ex_dd (M_serve_e hq4) (Nat.le_of_ble_eq_true rfl)) rfl ?_
      exact q_ex_ll (M_commit_b232_e h) ⟨rfl, trivial⟩
  · rw [if_neg hc] at h
    obtain ⟨q5, hq5, h⟩ := Option.bind_eq_some_iff.mp h
    refine q_ex_ca 4 (k1 := 97) (vs := [.inr (.inr (some (24, 0))), .inl l1, .inl l5]) (pc' := 79) (L' := (q_L [(0, .inr (.inr (some (24, 0)))), (1, .inl l1), (2, .inl l2), (3, .inl l3), (4, .inl l4), (5, .inl l5)])) (rest := []) (σ' := σ) (fun _ => rfl) (q_ex_dd (M_isPut_e hq5) (Nat.le_of_ble_eq_true rfl)) rfl ?_
    obtain ⟨q6, hq6, h⟩ := Option.bind_eq_some_iff.mp h
    refine q_ex_ca 5 (k1 := 99) (vs := [.inr (.inr (some (24, 0))), .inl l1, .inl l5]) (pc' := 88) (L' := (q_s1 (q_L [(0, .inr (.inr (some (24, 0)))), (1, .inl l1), (2, .inl l2), (3, .inl l3), (4, .inl l4), (5, .inl l5)]) 6 (.inl q5.1))) (rest := []) (σ' := q5.2) (fun _ => rfl) (q_ex_dd (M_isTaken_e hq6) (Nat.le_of_ble_eq_true rfl)) rfl ?_
    refine q_ex_br 3 (c := q5.1 = 0) (pc1 := 95) (pc2 := 100) (L' := (q_s1 (q_s1 (q_L [(0, .inr (.inr (some (24, 0)))), (1, .inl l1), (2, .inl l2), (3, .inl l3), (4, .inl l4), (5, .inl l5)]) 6 (.inl q5.1)) 7 (.inl q6.1))) (st' := []) (σ' := q6.2) (fun _ => rfl) (fun hc => ?_) (fun hc => ?_)
    · rw [if_pos hc] at h
      refine q_ex_br 2 (c := q6.1 = 0) (pc1 := 107) (pc2 := 100) (L' := (q_s1 (q_s1 (q_L [(0, .inr (.inr (some (24, 0)))), (1, .inl l1), (2, .inl l2), (3, .inl l3), (4, .inl l4), (5, .inl l5)]) 6 (.inl q5.1)) 7 (.inl q6.1))) (st' := []) (σ' := q6.2) (fun _ => rfl) (fun hc => ?_) (fun hc => ?_)
      · rw [if_pos hc] at h
        refine q_ex_go 1 (pc' := 109) (L' := (q_s1 (q_s1 (q_L [(0, .inr (.inr (some (24, 0)))), (1, .inl l1), (2, .inl l2), (3, .inl l3), (4, .inl l4), (5, .inl l5)]) 6 (.inl q5.1)) 7 (.inl q6.1))) (st' := [.inl l4]) (σ' := q6.2) (fun _ => rfl) ?_
        exact q_ex_ll (M_commit_b109_e hk63 h) ⟨rfl, rfl, rfl, rfl, rfl, rfl, rfl, trivial⟩
      · rw [if_neg hc] at h
        exact q_ex_ll (M_commit_b100_e hk63 h) ⟨rfl, rfl, rfl, rfl, rfl, rfl, rfl, rfl, trivial⟩
    · rw [if_neg hc] at h
      exact q_ex_ll (M_commit_b100_e hk63 h) ⟨rfl, rfl, rfl, rfl, rfl, rfl, rfl, rfl, trivial⟩
theorem M_commit_L63_e {n : Nat} {r0 : (Int32) × J} (f : Nat) : ∀ {l1 : Int32} {l2 : Int32} {l3 : Int32} {l4 : Int32} {l5 : Int32} {σ : J}, M_commit_L63 n f l1 l2 l3 l4 l5 σ = some r0 → q_ex q_pr n 6 85 63 (q_L [(0, .inr (.inr (some (24, 0)))), (1, .inl l1), (2, .inl l2), (3, .inl l3), (4, .inl l4), (5, .inl l5)]) [] σ (M_commit_r r0) := by
  induction f with
  | zero => intro l1 l2 l3 l4 l5 σ h; cases h
  | succ f ih =>
    intro l1 l2 l3 l4 l5 σ h
    exact M_commit_b63_e (f := f)  (fun h => ih h) h
theorem M_commit_b54_e {n : Nat} {r0 : (Int32) × J} {f : Nat} {l1 : Int32} {s0 : Int32} {σ : J} (h : M_commit_b54 n f l1 s0 σ = some r0) : q_ex q_pr n 6 85 54 (q_L [(0, .inr (.inr (some (24, 0)))), (1, .inl l1)]) [.inl s0] σ (M_commit_r r0) := by
  unfold M_commit_b54 at h
  refine q_ex_go 7 (pc' := 63) (L' := (q_s1 (q_s1 (q_s1 (q_s1 (q_L [(0, .inr (.inr (some (24, 0)))), (1, .inl l1)]) 2 (.inl s0)) 3 (.inl 0)) 4 (.inl 0)) 5 (.inl 0))) (st' := []) (σ' := σ) (fun _ => rfl) ?_
  exact q_ex_ll (M_commit_L63_e f h) ⟨rfl, rfl, rfl, rfl, rfl, rfl, trivial⟩
theorem M_commit_b0_e {n : Nat} {r0 : (Int32) × J} {f : Nat} {l1 : Int32} {σ : J} (h : M_commit_b0 n f l1 σ = some r0) : q_ex q_pr n 6 85 0 (q_L [(0, .inr (.inr (some (24, 0)))), (1, .inl l1)]) [] σ (M_commit_r r0) := by
  unfold M_commit_b0 at h
  obtain ⟨q1, hq1, h⟩ := Option.bind_eq_some_iff.mp h
  refine q_ex_ca 5 (k1 := 90) (vs := [.inr (.inr (some (24, 0))), .inl l1, .inl 1]) (pc' := 7) (L' := (q_L [(0, .inr (.inr (some (24, 0)))), (1, .inl l1)])) (rest := [.inr (.inr (some (24, 0)))]) (σ' := σ) (fun _ => rfl) (q_ex_dd (M_first_e hq1) (Nat.le_of_ble_eq_true rfl)) rfl ?_
  refine q_ex_go 1 (pc' := 10) (L' := (q_L [(0, .inr (.inr (some (24, 0)))), (1, .inl l1)])) (st' := []) (σ' := (q_sI q1.2 24 0 0 q1.1)) (fun _ => rfl) ?_
  refine q_nm (G := fun τ => q_ex q_pr n _ 85 10 (q_L [(0, .inr (.inr (some (24, 0)))), (1, .inl l1)]) [] τ _) h (fun σ2 h => ?_)
  refine q_ex_br 3 (c := 0 < (σ2.1 24 0 0)) (pc1 := 26) (pc2 := 17) (L' := (q_L [(0, .inr (.inr (some (24, 0)))), (1, .inl l1)])) (st' := []) (σ' := σ2) (fun _ => rfl) (fun hc => ?_) (fun hc => ?_)
  · rw [if_pos hc] at h
    exact q_ex_ll (M_commit_b26_e h) ⟨rfl, trivial⟩
  · rw [if_neg hc] at h
    refine q_by h (fun hz h => ?_)
    refine q_ex_gb 4 (pc' := 23) (L' := (q_L [(0, .inr (.inr (some (24, 0)))), (1, .inl l1)])) (st' := [.inl (σ2.2.1 34 0 l1.toNatClampNeg)]) (σ' := σ2) (fun _ => rfl) hz ?_
    refine q_ex_br 1 (c := (σ2.2.1 34 0 l1.toNatClampNeg) = 0) (pc1 := 26) (pc2 := 39) (L' := (q_L [(0, .inr (.inr (some (24, 0)))), (1, .inl l1)])) (st' := []) (σ' := σ2) (fun _ => rfl) (fun hc => ?_) (fun hc => ?_)
    · rw [if_pos hc] at h
      exact q_ex_ll (M_commit_b26_e h) ⟨rfl, trivial⟩
    · rw [if_neg hc] at h
      refine q_by h (fun hz h => ?_)
      refine q_ex_gb 4 (pc' := 45) (L' := (q_L [(0, .inr (.inr (some (24, 0)))), (1, .inl l1)])) (st' := [.inl (σ2.2.1 34 0 l1.toNatClampNeg)]) (σ' := σ2) (fun _ => rfl) hz ?_
      refine q_ex_br 2 (c := (σ2.2.1 34 0 l1.toNatClampNeg) ≤ 1) (pc1 := 53) (pc2 := 49) (L' := (q_L [(0, .inr (.inr (some (24, 0)))), (1, .inl l1)])) (st' := []) (σ' := σ2) (fun _ => rfl) (fun hc => ?_) (fun hc => ?_)
      · rw [if_pos hc] at h
        refine q_ex_go 1 (pc' := 54) (L' := (q_L [(0, .inr (.inr (some (24, 0)))), (1, .inl l1)])) (st' := [.inl 0]) (σ' := σ2) (fun _ => rfl) ?_
        exact q_ex_ll (M_commit_b54_e h) ⟨rfl, rfl, trivial⟩
      · rw [if_neg hc] at h
        refine q_ex_go 2 (pc' := 54) (L' := (q_L [(0, .inr (.inr (some (24, 0)))), (1, .inl l1)])) (st' := [.inl 1]) (σ' := σ2) (fun _ => rfl) ?_
        exact q_ex_ll (M_commit_b54_e h) ⟨rfl, rfl, trivial⟩
theorem M_commit_e {n : Nat} {r0 : (Int32) × J} {f : Nat} {x1 : Int32} {σ : J} (h : M_commit n f x1 σ = some r0) : q_ex q_pr n 6 85 0 (q_args 0 [.inr (.inr (some (24, 0))), .inl x1]) [] σ (M_commit_r r0) := q_ex_ll (M_commit_b0_e h) ⟨rfl, rfl, trivial⟩
def M_ending_r : (Int32) × J → Res := fun q => (.inl (some (.inl q.1)), q.2)
-- 87: M_ending
def M_ending_b34 (n : Nat) (k2 : Int32 → J → Option ((Int32) × J)) (f : Nat) (l1 : Int32) (σ : J) : Option ((Int32) × J) := k2 (l1 + 1) σ
def M_ending_b2 (n : Nat) (k2 : Int32 → J → Option ((Int32) × J)) (f : Nat) (l1 : Int32) (σ : J) : Option ((Int32) × J) := if (σ.1 24 1 0) ≤ l1 then some ((-1), σ) else if q_in l1 20 = true then if (σ.2.1 27 0 l1.toNatClampNeg) ≤ 0 then M_ending_b34 n k2 f l1 σ else if q_in l1 20 = true then if (σ.1 24 3 0) < (σ.2.1 27 0 l1.toNatClampNeg) then M_ending_b34 n k2 f l1 σ else some (l1, σ) else none else none
def M_ending_L2 (n : Nat) : Nat → Int32 → J → Option ((Int32) × J)
  | 0 => fun _ _ => none
  | f + 1 => fun l1 σ => M_ending_b2 n (M_ending_L2 n f) f l1 σ
def M_ending_b0 (n : Nat) (f : Nat) (σ : J) : Option ((Int32) × J) := M_ending_L2 n f 0 σ
def M_ending (n : Nat) (f : Nat) (σ : J) : Option ((Int32) × J) := M_ending_b0 n f σ
theorem M_ending_b34_e {n : Nat} {r0 : (Int32) × J} {k2 : Int32 → J → Option ((Int32) × J)} {f : Nat} {l1 : Int32} {σ : J} (hk2 : ∀ {l1 : Int32} {σ : J}, k2 l1 σ = some r0 → q_ex q_pr n 0 87 2 (q_L [(0, .inr (.inr (some (24, 0)))), (1, .inl l1)]) [] σ (M_ending_r r0)) (h : M_ending_b34 n k2 f l1 σ = some r0) : q_ex q_pr n 0 87 34 (q_L [(0, .inr (.inr (some (24, 0)))), (1, .inl l1)]) [] σ (M_ending_r r0) := by
  unfold M_ending_b34 at h
  refine q_ex_go 2 (pc' := 2) (L' := (q_s1 (q_L [(0, .inr (.inr (some (24, 0)))), (1, .inl l1)]) 1 (.inl (l1 + 1)))) (st' := []) (σ' := σ) (fun _ => rfl) ?_
  exact q_ex_ll (hk2 h) ⟨rfl, rfl, trivial⟩
theorem M_ending_b2_e {n : Nat} {r0 : (Int32) × J} {k2 : Int32 → J → Option ((Int32) × J)} {f : Nat} {l1 : Int32} {σ : J} (hk2 : ∀ {l1 : Int32} {σ : J}, k2 l1 σ = some r0 → q_ex q_pr n 0 87 2 (q_L [(0, .inr (.inr (some (24, 0)))), (1, .inl l1)]) [] σ (M_ending_r r0)) (h : M_ending_b2 n k2 f l1 σ = some r0) : q_ex q_pr n 0 87 2 (q_L [(0, .inr (.inr (some (24, 0)))), (1, .inl l1)]) [] σ (M_ending_r r0) := by
  unfold M_ending_b2 at h
  refine q_ex_br 4 (c := (σ.1 24 1 0) ≤ l1) (pc1 := 40) (pc2 := 10) (L' := (q_L [(0, .inr (.inr (some (24, 0)))), (1, .inl l1)])) (st' := []) (σ' := σ) (fun _ => rfl) (fun hc => ?_) (fun hc => ?_)
  · rw [if_pos hc] at h
    refine q_ex_go 1 (pc' := 41) (L' := (q_L [(0, .inr (.inr (some (24, 0)))), (1, .inl l1)])) (st' := [.inl (-1)]) (σ' := σ) (fun _ => rfl) ?_
    cases h
    exact ⟨1, rfl⟩
  · rw [if_neg hc] at h
    refine q_by h (fun hz h => ?_)
    refine q_ex_gb 4 (pc' := 16) (L' := (q_L [(0, .inr (.inr (some (24, 0)))), (1, .inl l1)])) (st' := [.inl (σ.2.1 27 0 l1.toNatClampNeg)]) (σ' := σ) (fun _ => rfl) hz ?_
    refine q_ex_br 1 (c := (σ.2.1 27 0 l1.toNatClampNeg) ≤ 0) (pc1 := 34) (pc2 := 19) (L' := (q_L [(0, .inr (.inr (some (24, 0)))), (1, .inl l1)])) (st' := []) (σ' := σ) (fun _ => rfl) (fun hc => ?_) (fun hc => ?_)
    · rw [if_pos hc] at h
      exact q_ex_ll (M_ending_b34_e hk2 h) ⟨rfl, rfl, trivial⟩
    · rw [if_neg hc] at h
      refine q_by h (fun hz h => ?_)
      refine q_ex_gb 4 (pc' := 25) (L' := (q_L [(0, .inr (.inr (some (24, 0)))), (1, .inl l1)])) (st' := [.inl (σ.2.1 27 0 l1.toNatClampNeg)]) (σ' := σ) (fun _ => rfl) hz ?_
      refine q_ex_br 3 (c := (σ.1 24 3 0) < (σ.2.1 27 0 l1.toNatClampNeg)) (pc1 := 34) (pc2 := 32) (L' := (q_L [(0, .inr (.inr (some (24, 0)))), (1, .inl l1)])) (st' := []) (σ' := σ) (fun _ => rfl) (fun hc => ?_) (fun hc => ?_)
      · rw [if_pos hc] at h
        exact q_ex_ll (M_ending_b34_e hk2 h) ⟨rfl, rfl, trivial⟩
      · rw [if_neg hc] at h
        refine q_ex_go 1 (pc' := 33) (L' := (q_L [(0, .inr (.inr (some (24, 0)))), (1, .inl l1)])) (st' := [.inl l1]) (σ' := σ) (fun _ => rfl) ?_
        cases h
        exact ⟨1, rfl⟩
theorem M_ending_L2_e {n : Nat} {r0 : (Int32) × J} (f : Nat) : ∀ {l1 : Int32} {σ : J}, M_ending_L2 n f l1 σ = some r0 → q_ex q_pr n 0 87 2 (q_L [(0, .inr (.inr (some (24, 0)))), (1, .inl l1)]) [] σ (M_ending_r r0) := by
  induction f with
  | zero => intro l1 σ h; cases h
  | succ f ih =>
    intro l1 σ h
    exact M_ending_b2_e (f := f)  (fun h => ih h) h
theorem M_ending_b0_e {n : Nat} {r0 : (Int32) × J} {f : Nat} {σ : J} (h : M_ending_b0 n f σ = some r0) : q_ex q_pr n 0 87 0 (q_L [(0, .inr (.inr (some (24, 0))))]) [] σ (M_ending_r r0) := by
  unfold M_ending_b0 at h
  refine q_ex_go 2 (pc' := 2) (L' := (q_s1 (q_L [(0, .inr (.inr (some (24, 0))))]) 1 (.inl 0))) (st' := []) (σ' := σ) (fun _ => rfl) ?_
  exact q_ex_ll (M_ending_L2_e f h) ⟨rfl, rfl, trivial⟩
theorem M_ending_e {n : Nat} {r0 : (Int32) × J} {f : Nat} {σ : J} (h : M_ending n f σ = some r0) : q_ex q_pr n 0 87 0 (q_args 0 [.inr (.inr (some (24, 0)))]) [] σ (M_ending_r r0) := q_ex_ll (M_ending_b0_e h) ⟨rfl, trivial⟩
def M_field_r : (Int32) × J → Res := fun q => (.inl (some (.inl q.1)), q.2)
-- 88: M_field
def M_field_b43 (n : Nat) (f : Nat) (l1 : Int32) (l2 : Int32) (l3 : Int64) (s1 : Int32) (σ : J) : Option ((Int32) × J) := q_bs (q_sI σ 24 0 0 s1) fun σ4 => if (σ4.1 24 0 0) ≤ 0 then if q_in l1 4 = true then if q_in ((4 * l1) + (σ4.2.1 35 0 l1.toNatClampNeg)) 16 = true then q_bs (q_sA σ4 36 0 (upd (σ4.2.1 36 0) (((4 * l1) + (σ4.2.1 35 0 l1.toNatClampNeg)).toNatClampNeg) l2)) fun σ5 => if q_in l1 4 = true then if q_in ((4 * l1) + (σ5.2.1 35 0 l1.toNatClampNeg)) 16 = true then q_bs (q_sL σ5 37 0 (vp_updL (σ5.2.2.1 37 0) (((4 * l1) + (σ5.2.1 35 0 l1.toNatClampNeg)).toNatClampNeg) l3)) fun σ6 => if q_in l1 4 = true then if q_in l1 4 = true then q_bs (q_sA σ6 35 0 (upd (σ6.2.1 35 0) l1.toNatClampNeg ((σ6.2.1 35 0 l1.toNatClampNeg) + 1))) fun σ7 => if q_in l1 4 = true then some (σ7.2.1 35 0 l1.toNatClampNeg, σ7) else none else none else none else none else none else none else none else some (0, σ4)
def M_field_b39 (n : Nat) (f : Nat) (l1 : Int32) (l2 : Int32) (l3 : Int64) (σ : J) : Option ((Int32) × J) := M_field_b43 n f l1 l2 l3 (σ.1 24 0 0) σ
def M_field_b0 (n : Nat) (f : Nat) (l1 : Int32) (l2 : Int32) (l3 : Int64) (σ : J) : Option ((Int32) × J) := (M_within n l2.toInt64 2 σ).bind fun q1 => (M_first n f l1 q1.1 q1.2).bind fun q2 => q_bs (q_sI q2.2 24 0 0 q2.1) fun σ3 => if (σ3.1 24 0 0) = 0 then if q_in l1 4 = true then if (σ3.2.1 35 0 l1.toNatClampNeg) = 4 then M_field_b43 n f l1 l2 l3 4 σ3 else M_field_b39 n f l1 l2 l3 σ3 else none else M_field_b39 n f l1 l2 l3 σ3
def M_field (n : Nat) (f : Nat) (x1 : Int32) (x2 : Int32) (x3 : Int64) (σ : J) : Option ((Int32) × J) := M_field_b0 n f x1 x2 x3 σ
theorem M_field_b43_e {n : Nat} {r0 : (Int32) × J} {f : Nat} {l1 : Int32} {l2 : Int32} {l3 : Int64} {s1 : Int32} {σ : J} (h : M_field_b43 n f l1 l2 l3 s1 σ = some r0) : q_ex q_pr n 2 88 43 (q_L [(0, .inr (.inr (some (24, 0)))), (1, .inl l1), (2, .inl l2), (3, .inr (.inl l3))]) [.inl s1, .inr (.inr (some (24, 0)))] σ (M_field_r r0) := by
  unfold M_field_b43 at h
  refine q_ex_go 1 (pc' := 46) (L' := (q_L [(0, .inr (.inr (some (24, 0)))), (1, .inl l1), (2, .inl l2), (3, .inr (.inl l3))])) (st' := []) (σ' := (q_sI σ 24 0 0 s1)) (fun _ => rfl) ?_
  refine q_nm (G := fun τ => q_ex q_pr n _ 88 46 (q_L [(0, .inr (.inr (some (24, 0)))), (1, .inl l1), (2, .inl l2), (3, .inr (.inl l3))]) [] τ _) h (fun σ4 h => ?_)
  refine q_ex_br 3 (c := (σ4.1 24 0 0) ≤ 0) (pc1 := 55) (pc2 := 53) (L' := (q_L [(0, .inr (.inr (some (24, 0)))), (1, .inl l1), (2, .inl l2), (3, .inr (.inl l3))])) (st' := []) (σ' := σ4) (fun _ => rfl) (fun hc => ?_) (fun hc => ?_)
  · rw [if_pos hc] at h
    refine q_by h (fun hz h => ?_)
    refine q_ex_gb 9 (pc' := 68) (L' := (q_L [(0, .inr (.inr (some (24, 0)))), (1, .inl l1), (2, .inl l2), (3, .inr (.inl l3))])) (st' := [.inl (σ4.2.1 35 0 l1.toNatClampNeg), .inl (4 * l1), .inr (.inr (some (36, 0)))]) (σ' := σ4) (fun _ => rfl) hz ?_
    refine q_by h (fun hz h => ?_)
    refine q_ex_gb 3 (pc' := 71) (L' := (q_L [(0, .inr (.inr (some (24, 0)))), (1, .inl l1), (2, .inl l2), (3, .inr (.inl l3))])) (st' := []) (σ' := (q_sA σ4 36 0 (upd (σ4.2.1 36 0) (((4 * l1) + (σ4.2.1 35 0 l1.toNatClampNeg)).toNatClampNeg) l2))) (fun _ => rfl) hz ?_
    refine q_nm (G := fun τ => q_ex q_pr n _ 88 71 (q_L [(0, .inr (.inr (some (24, 0)))), (1, .inl l1), (2, .inl l2), (3, .inr (.inl l3))]) [] τ _) h (fun σ5 h => ?_)
    refine q_by h (fun hz h => ?_)
    refine q_ex_gb 9 (pc' := 84) (L' := (q_L [(0, .inr (.inr (some (24, 0)))), (1, .inl l1), (2, .inl l2), (3, .inr (.inl l3))])) (st' := [.inl (σ5.2.1 35 0 l1.toNatClampNeg), .inl (4 * l1), .inr (.inr (some (37, 0)))]) (σ' := σ5) (fun _ => rfl) hz ?_
    refine q_by h (fun hz h => ?_)
    refine q_ex_gb 3 (pc' := 87) (L' := (q_L [(0, .inr (.inr (some (24, 0)))), (1, .inl l1), (2, .inl l2), (3, .inr (.inl l3))])) (st' := []) (σ' := (q_sL σ5 37 0 (vp_updL (σ5.2.2.1 37 0) (((4 * l1) + (σ5.2.1 35 0 l1.toNatClampNeg)).toNatClampNeg) l3))) (fun _ => rfl) hz ?_
    refine q_nm (G := fun τ => q_ex q_pr n _ 88 87 (q_L [(0, .inr (.inr (some (24, 0)))), (1, .inl l1), (2, .inl l2), (3, .inr (.inl l3))]) [] τ _) h (fun σ6 h => ?_)
    refine q_by h (fun hz h => ?_)
    refine q_ex_gb 5 (pc' := 94) (L' := (q_L [(0, .inr (.inr (some (24, 0)))), (1, .inl l1), (2, .inl l2), (3, .inr (.inl l3))])) (st' := [.inl (σ6.2.1 35 0 l1.toNatClampNeg), .inl l1, .inr (.inr (some (35, 0)))]) (σ' := σ6) (fun _ => rfl) hz ?_
    refine q_by h (fun hz h => ?_)
    refine q_ex_gb 3 (pc' := 97) (L' := (q_L [(0, .inr (.inr (some (24, 0)))), (1, .inl l1), (2, .inl l2), (3, .inr (.inl l3))])) (st' := []) (σ' := (q_sA σ6 35 0 (upd (σ6.2.1 35 0) l1.toNatClampNeg ((σ6.2.1 35 0 l1.toNatClampNeg) + 1)))) (fun _ => rfl) hz ?_
    refine q_nm (G := fun τ => q_ex q_pr n _ 88 97 (q_L [(0, .inr (.inr (some (24, 0)))), (1, .inl l1), (2, .inl l2), (3, .inr (.inl l3))]) [] τ _) h (fun σ7 h => ?_)
    refine q_by h (fun hz h => ?_)
    refine q_ex_gb 4 (pc' := 103) (L' := (q_L [(0, .inr (.inr (some (24, 0)))), (1, .inl l1), (2, .inl l2), (3, .inr (.inl l3))])) (st' := [.inl (σ7.2.1 35 0 l1.toNatClampNeg)]) (σ' := σ7) (fun _ => rfl) hz ?_
    cases h
    exact ⟨1, rfl⟩
  · rw [if_neg hc] at h
    refine q_ex_go 1 (pc' := 54) (L' := (q_L [(0, .inr (.inr (some (24, 0)))), (1, .inl l1), (2, .inl l2), (3, .inr (.inl l3))])) (st' := [.inl 0]) (σ' := σ4) (fun _ => rfl) ?_
    cases h
    exact ⟨1, rfl⟩
theorem M_field_b39_e {n : Nat} {r0 : (Int32) × J} {f : Nat} {l1 : Int32} {l2 : Int32} {l3 : Int64} {σ : J} (h : M_field_b39 n f l1 l2 l3 σ = some r0) : q_ex q_pr n 2 88 39 (q_L [(0, .inr (.inr (some (24, 0)))), (1, .inl l1), (2, .inl l2), (3, .inr (.inl l3))]) [.inr (.inr (some (24, 0)))] σ (M_field_r r0) := by
  unfold M_field_b39 at h
  refine q_ex_go 2 (pc' := 43) (L' := (q_L [(0, .inr (.inr (some (24, 0)))), (1, .inl l1), (2, .inl l2), (3, .inr (.inl l3))])) (st' := [.inl (σ.1 24 0 0), .inr (.inr (some (24, 0)))]) (σ' := σ) (fun _ => rfl) ?_
  exact q_ex_ll (M_field_b43_e h) ⟨rfl, rfl, rfl, rfl, trivial⟩
theorem M_field_b0_e {n : Nat} {r0 : (Int32) × J} {f : Nat} {l1 : Int32} {l2 : Int32} {l3 : Int64} {σ : J} (h : M_field_b0 n f l1 l2 l3 σ = some r0) : q_ex q_pr n 2 88 0 (q_L [(0, .inr (.inr (some (24, 0)))), (1, .inl l1), (2, .inl l2), (3, .inr (.inl l3))]) [] σ (M_field_r r0) := by
  unfold M_field_b0 at h
  obtain ⟨q1, hq1, h⟩ := Option.bind_eq_some_iff.mp h
  refine q_ex_ca 7 (k1 := 122) (vs := [.inr (.inl l2.toInt64), .inr (.inl 2)]) (pc' := 11) (L' := (q_L [(0, .inr (.inr (some (24, 0)))), (1, .inl l1), (2, .inl l2), (3, .inr (.inl l3))])) (rest := [.inl l1, .inr (.inr (some (24, 0))), .inr (.inr (some (24, 0)))]) (σ' := σ) (fun _ => rfl) (q_ex_dd (M_within_e hq1) (Nat.le_of_ble_eq_true rfl)) rfl ?_
  obtain ⟨q2, hq2, h⟩ := Option.bind_eq_some_iff.mp h
  refine q_ex_ca 1 (k1 := 90) (vs := [.inr (.inr (some (24, 0))), .inl l1, .inl q1.1]) (pc' := 14) (L' := (q_L [(0, .inr (.inr (some (24, 0)))), (1, .inl l1), (2, .inl l2), (3, .inr (.inl l3))])) (rest := [.inr (.inr (some (24, 0)))]) (σ' := q1.2) (fun _ => rfl) (q_ex_dd (M_first_e hq2) (Nat.le_of_ble_eq_true rfl)) rfl ?_
  refine q_ex_go 1 (pc' := 17) (L' := (q_L [(0, .inr (.inr (some (24, 0)))), (1, .inl l1), (2, .inl l2), (3, .inr (.inl l3))])) (st' := []) (σ' := (q_sI q2.2 24 0 0 q2.1)) (fun _ => rfl) ?_
  refine q_nm (G := fun τ => q_ex q_pr n _ 88 17 (q_L [(0, .inr (.inr (some (24, 0)))), (1, .inl l1), (2, .inl l2), (3, .inr (.inl l3))]) [] τ _) h (fun σ3 h => ?_)
  refine q_ex_br 4 (c := (σ3.1 24 0 0) = 0) (pc1 := 25) (pc2 := 39) (L' := (q_L [(0, .inr (.inr (some (24, 0)))), (1, .inl l1), (2, .inl l2), (3, .inr (.inl l3))])) (st' := [.inr (.inr (some (24, 0)))]) (σ' := σ3) (fun _ => rfl) (fun hc => ?_) (fun hc => ?_)
  · rw [if_pos hc] at h
    refine q_by h (fun hz h => ?_)
    refine q_ex_gb 4 (pc' := 31) (L' := (q_L [(0, .inr (.inr (some (24, 0)))), (1, .inl l1), (2, .inl l2), (3, .inr (.inl l3))])) (st' := [.inl (σ3.2.1 35 0 l1.toNatClampNeg), .inr (.inr (some (24, 0)))]) (σ' := σ3) (fun _ => rfl) hz ?_
    refine q_ex_br 2 (c := (σ3.2.1 35 0 l1.toNatClampNeg) = 4) (pc1 := 35) (pc2 := 39) (L' := (q_L [(0, .inr (.inr (some (24, 0)))), (1, .inl l1), (2, .inl l2), (3, .inr (.inl l3))])) (st' := [.inr (.inr (some (24, 0)))]) (σ' := σ3) (fun _ => rfl) (fun hc => ?_) (fun hc => ?_)
    · rw [if_pos hc] at h
      refine q_ex_go 2 (pc' := 43) (L' := (q_L [(0, .inr (.inr (some (24, 0)))), (1, .inl l1), (2, .inl l2), (3, .inr (.inl l3))])) (st' := [.inl 4, .inr (.inr (some (24, 0)))]) (σ' := σ3) (fun _ => rfl) ?_
      exact q_ex_ll (M_field_b43_e h) ⟨rfl, rfl, rfl, rfl, trivial⟩
    · rw [if_neg hc] at h
      exact q_ex_ll (M_field_b39_e h) ⟨rfl, rfl, rfl, rfl, trivial⟩
  · rw [if_neg hc] at h
    exact q_ex_ll (M_field_b39_e h) ⟨rfl, rfl, rfl, rfl, trivial⟩
theorem M_field_e {n : Nat} {r0 : (Int32) × J} {f : Nat} {x1 : Int32} {x2 : Int32} {x3 : Int64} {σ : J} (h : M_field n f x1 x2 x3 σ = some r0) : q_ex q_pr n 2 88 0 (q_args 0 [.inr (.inr (some (24, 0))), .inl x1, .inl x2, .inr (.inl x3)]) [] σ (M_field_r r0) := q_ex_ll (M_field_b0_e h) ⟨rfl, rfl, rfl, rfl, trivial⟩
def M_ready_r : (Int32) × J → Res := fun q => (.inl (some (.inl q.1)), q.2)
-- 109: M_ready
def M_ready_b62 (n : Nat) (f : Nat) (l3 : Int32) (σ : J) : Option ((Int32) × J) := if l3 &&& 1 = l3 then some (l3, σ) else none
def M_ready_b55 (n : Nat) (k26 : Int32 → Int32 → Int32 → Int32 → J → Option ((Int32) × J)) (f : Nat) (l1 : Int32) (l2 : Int32) (l4 : Int32) (s0 : Int32) (σ : J) : Option ((Int32) × J) := k26 l1 l2 s0 (l4 + 1) σ
def M_ready_b26 (n : Nat) (k26 : Int32 → Int32 → Int32 → Int32 → J → Option ((Int32) × J)) (f : Nat) (l1 : Int32) (l2 : Int32) (l3 : Int32) (l4 : Int32) (σ : J) : Option ((Int32) × J) := if l2 ≤ l4 then M_ready_b62 n f l3 σ else if l3 = 0 then M_ready_b62 n f l3 σ else if q_in ((3 * l1) + l4) 18 = true then if (σ.2.1 38 0 ((3 * l1) + l4).toNatClampNeg) ≤ 0 then M_ready_b55 n k26 f l1 l2 l4 0 σ else M_ready_b55 n k26 f l1 l2 l4 1 σ else none
def M_ready_L26 (n : Nat) : Nat → Int32 → Int32 → Int32 → Int32 → J → Option ((Int32) × J)
  | 0 => fun _ _ _ _ _ => none
  | f + 1 => fun l1 l2 l3 l4 σ => M_ready_b26 n (M_ready_L26 n f) f l1 l2 l3 l4 σ
def M_ready_b22 (n : Nat) (f : Nat) (l1 : Int32) (l2 : Int32) (s0 : Int32) (σ : J) : Option ((Int32) × J) := M_ready_L26 n f l1 l2 s0 0 σ
def M_ready_b21 (n : Nat) (f : Nat) (l1 : Int32) (l2 : Int32) (σ : J) : Option ((Int32) × J) := M_ready_b22 n f l1 l2 0 σ
def M_ready_b0 (n : Nat) (f : Nat) (l1 : Int32) (l2 : Int32) (σ : J) : Option ((Int32) × J) := (M_isSession n l1 σ).bind fun q1 => if q1.1 = 0 then M_ready_b21 n f l1 l2 q1.2 else if l2 ≤ 0 then M_ready_b21 n f l1 l2 q1.2 else if 4 ≤ l2 then M_ready_b21 n f l1 l2 q1.2 else M_ready_b22 n f l1 l2 1 q1.2
def M_ready (n : Nat) (f : Nat) (x1 : Int32) (x2 : Int32) (σ : J) : Option ((Int32) × J) := M_ready_b0 n f x1 x2 σ
theorem M_ready_b62_e {n : Nat} {r0 : (Int32) × J} {f : Nat} {l3 : Int32} {σ : J} (h : M_ready_b62 n f l3 σ = some r0) : q_ex q_pr n 1 109 62 (q_L [(3, .inl l3)]) [] σ (M_ready_r r0) := by
  unfold M_ready_b62 at h
  refine q_ex_go 1 (pc' := 63) (L' := (q_L [(3, .inl l3)])) (st' := [.inl l3]) (σ' := σ) (fun _ => rfl) ?_
  refine q_by h (fun hz h => ?_)
  cases h
  exact ⟨1, if_pos (e := (none : Option Res)) hz⟩
theorem M_ready_b55_e {n : Nat} {r0 : (Int32) × J} {k26 : Int32 → Int32 → Int32 → Int32 → J → Option ((Int32) × J)} {f : Nat} {l1 : Int32} {l2 : Int32} {l4 : Int32} {s0 : Int32} {σ : J} (hk26 : ∀ {l1 : Int32} {l2 : Int32} {l3 : Int32} {l4 : Int32} {σ : J}, k26 l1 l2 l3 l4 σ = some r0 → q_ex q_pr n 1 109 26 (q_L [(0, .inr (.inr (some (24, 0)))), (1, .inl l1), (2, .inl l2), (3, .inl l3), (4, .inl l4)]) [] σ (M_ready_r r0)) (h : M_ready_b55 n k26 f l1 l2 l4 s0 σ = some r0) : q_ex q_pr n 1 109 55 (q_L [(0, .inr (.inr (some (24, 0)))), (1, .inl l1), (2, .inl l2), (4, .inl l4)]) [.inl s0] σ (M_ready_r r0) := by
  unfold M_ready_b55 at h
  refine q_ex_go 3 (pc' := 26) (L' := (q_s1 (q_s1 (q_L [(0, .inr (.inr (some (24, 0)))), (1, .inl l1), (2, .inl l2), (4, .inl l4)]) 3 (.inl s0)) 4 (.inl (l4 + 1)))) (st' := []) (σ' := σ) (fun _ => rfl) ?_
  exact q_ex_ll (hk26 h) ⟨rfl, rfl, rfl, rfl, rfl, trivial⟩
theorem M_ready_b26_e {n : Nat} {r0 : (Int32) × J} {k26 : Int32 → Int32 → Int32 → Int32 → J → Option ((Int32) × J)} {f : Nat} {l1 : Int32} {l2 : Int32} {l3 : Int32} {l4 : Int32} {σ : J} (hk26 : ∀ {l1 : Int32} {l2 : Int32} {l3 : Int32} {l4 : Int32} {σ : J}, k26 l1 l2 l3 l4 σ = some r0 → q_ex q_pr n 1 109 26 (q_L [(0, .inr (.inr (some (24, 0)))), (1, .inl l1), (2, .inl l2), (3, .inl l3), (4, .inl l4)]) [] σ (M_ready_r r0)) (h : M_ready_b26 n k26 f l1 l2 l3 l4 σ = some r0) : q_ex q_pr n 1 109 26 (q_L [(0, .inr (.inr (some (24, 0)))), (1, .inl l1), (2, .inl l2), (3, .inl l3), (4, .inl l4)]) [] σ (M_ready_r r0) := by
  unfold M_ready_b26 at h
  refine q_ex_br 3 (c := l2 ≤ l4) (pc1 := 62) (pc2 := 32) (L' := (q_L [(0, .inr (.inr (some (24, 0)))), (1, .inl l1), (2, .inl l2), (3, .inl l3), (4, .inl l4)])) (st' := []) (σ' := σ) (fun _ => rfl) (fun hc => ?_) (fun hc => ?_)
  · rw [if_pos hc] at h
    exact q_ex_ll (M_ready_b62_e h) ⟨rfl, trivial⟩
  · rw [if_neg hc] at h
    refine q_ex_br 2 (c := l3 = 0) (pc1 := 62) (pc2 := 36) (L' := (q_L [(0, .inr (.inr (some (24, 0)))), (1, .inl l1), (2, .inl l2), (3, .inl l3), (4, .inl l4)])) (st' := []) (σ' := σ) (fun _ => rfl) (fun hc => ?_) (fun hc => ?_)
    · rw [if_pos hc] at h
      exact q_ex_ll (M_ready_b62_e h) ⟨rfl, trivial⟩
    · rw [if_neg hc] at h
      refine q_by h (fun hz h => ?_)
      refine q_ex_gb 8 (pc' := 47) (L' := (q_L [(0, .inr (.inr (some (24, 0)))), (1, .inl l1), (2, .inl l2), (3, .inl l3), (4, .inl l4)])) (st' := [.inl (σ.2.1 38 0 ((3 * l1) + l4).toNatClampNeg)]) (σ' := σ) (fun _ => rfl) hz ?_
      refine q_ex_br 1 (c := (σ.2.1 38 0 ((3 * l1) + l4).toNatClampNeg) ≤ 0) (pc1 := 54) (pc2 := 50) (L' := (q_L [(0, .inr (.inr (some (24, 0)))), (1, .inl l1), (2, .inl l2), (3, .inl l3), (4, .inl l4)])) (st' := []) (σ' := σ) (fun _ => rfl) (fun hc => ?_) (fun hc => ?_)
      · rw [if_pos hc] at h
        refine q_ex_go 1 (pc' := 55) (L' := (q_L [(0, .inr (.inr (some (24, 0)))), (1, .inl l1), (2, .inl l2), (3, .inl l3), (4, .inl l4)])) (st' := [.inl 0]) (σ' := σ) (fun _ => rfl) ?_
        exact q_ex_ll (M_ready_b55_e hk26 h) ⟨rfl, rfl, rfl, rfl, trivial⟩
      · rw [if_neg hc] at h
        refine q_ex_go 2 (pc' := 55) (L' := (q_L [(0, .inr (.inr (some (24, 0)))), (1, .inl l1), (2, .inl l2), (3, .inl l3), (4, .inl l4)])) (st' := [.inl 1]) (σ' := σ) (fun _ => rfl) ?_
        exact q_ex_ll (M_ready_b55_e hk26 h) ⟨rfl, rfl, rfl, rfl, trivial⟩
theorem M_ready_L26_e {n : Nat} {r0 : (Int32) × J} (f : Nat) : ∀ {l1 : Int32} {l2 : Int32} {l3 : Int32} {l4 : Int32} {σ : J}, M_ready_L26 n f l1 l2 l3 l4 σ = some r0 → q_ex q_pr n 1 109 26 (q_L [(0, .inr (.inr (some (24, 0)))), (1, .inl l1), (2, .inl l2), (3, .inl l3), (4, .inl l4)]) [] σ (M_ready_r r0) := by
  induction f with
  | zero => intro l1 l2 l3 l4 σ h; cases h
  | succ f ih =>
    intro l1 l2 l3 l4 σ h
    exact M_ready_b26_e (f := f)  (fun h => ih h) h
theorem M_ready_b22_e {n : Nat} {r0 : (Int32) × J} {f : Nat} {l1 : Int32} {l2 : Int32} {s0 : Int32} {σ : J} (h : M_ready_b22 n f l1 l2 s0 σ = some r0) : q_ex q_pr n 1 109 22 (q_L [(0, .inr (.inr (some (24, 0)))), (1, .inl l1), (2, .inl l2)]) [.inl s0] σ (M_ready_r r0) := by
  unfold M_ready_b22 at h
  refine q_ex_go 3 (pc' := 26) (L' := (q_s1 (q_s1 (q_L [(0, .inr (.inr (some (24, 0)))), (1, .inl l1), (2, .inl l2)]) 3 (.inl s0)) 4 (.inl 0))) (st' := []) (σ' := σ) (fun _ => rfl) ?_
  exact q_ex_ll (M_ready_L26_e f h) ⟨rfl, rfl, rfl, rfl, rfl, trivial⟩
theorem M_ready_b21_e {n : Nat} {r0 : (Int32) × J} {f : Nat} {l1 : Int32} {l2 : Int32} {σ : J} (h : M_ready_b21 n f l1 l2 σ = some r0) : q_ex q_pr n 1 109 21 (q_L [(0, .inr (.inr (some (24, 0)))), (1, .inl l1), (2, .inl l2)]) [] σ (M_ready_r r0) := by
  unfold M_ready_b21 at h
  refine q_ex_go 1 (pc' := 22) (L' := (q_L [(0, .inr (.inr (some (24, 0)))), (1, .inl l1), (2, .inl l2)])) (st' := [.inl 0]) (σ' := σ) (fun _ => rfl) ?_
  exact q_ex_ll (M_ready_b22_e h) ⟨rfl, rfl, rfl, trivial⟩
theorem M_ready_b0_e {n : Nat} {r0 : (Int32) × J} {f : Nat} {l1 : Int32} {l2 : Int32} {σ : J} (h : M_ready_b0 n f l1 l2 σ = some r0) : q_ex q_pr n 1 109 0 (q_L [(0, .inr (.inr (some (24, 0)))), (1, .inl l1), (2, .inl l2)]) [] σ (M_ready_r r0) := by
  unfold M_ready_b0 at h
  obtain ⟨q1, hq1, h⟩ := Option.bind_eq_some_iff.mp h
  refine q_ex_ca 3 (k1 := 98) (vs := [.inr (.inr (some (24, 0))), .inl l1]) (pc' := 5) (L' := (q_L [(0, .inr (.inr (some (24, 0)))), (1, .inl l1), (2, .inl l2)])) (rest := []) (σ' := σ) (fun _ => rfl) (q_ex_dd (M_isSession_e hq1) (Nat.le_of_ble_eq_true rfl)) rfl ?_
  refine q_ex_br 1 (c := q1.1 = 0) (pc1 := 21) (pc2 := 8) (L' := (q_L [(0, .inr (.inr (some (24, 0)))), (1, .inl l1), (2, .inl l2)])) (st' := []) (σ' := q1.2) (fun _ => rfl) (fun hc => ?_) (fun hc => ?_)
  · rw [if_pos hc] at h
    exact q_ex_ll (M_ready_b21_e h) ⟨rfl, rfl, rfl, trivial⟩
  · rw [if_neg hc] at h
    refine q_ex_br 2 (c := l2 ≤ 0) (pc1 := 21) (pc2 := 12) (L' := (q_L [(0, .inr (.inr (some (24, 0)))), (1, .inl l1), (2, .inl l2)])) (st' := []) (σ' := q1.2) (fun _ => rfl) (fun hc => ?_) (fun hc => ?_)
    · rw [if_pos hc] at h
      exact q_ex_ll (M_ready_b21_e h) ⟨rfl, rfl, rfl, trivial⟩
    · rw [if_neg hc] at h
      refine q_ex_br 3 (c := 4 ≤ l2) (pc1 := 21) (pc2 := 17) (L' := (q_L [(0, .inr (.inr (some (24, 0)))), (1, .inl l1), (2, .inl l2)])) (st' := []) (σ' := q1.2) (fun _ => rfl) (fun hc => ?_) (fun hc => ?_)
      · rw [if_pos hc] at h
        exact q_ex_ll (M_ready_b21_e h) ⟨rfl, rfl, rfl, trivial⟩
      · rw [if_neg hc] at h
        refine q_ex_go 2 (pc' := 22) (L' := (q_L [(0, .inr (.inr (some (24, 0)))), (1, .inl l1), (2, .inl l2)])) (st' := [.inl 1]) (σ' := q1.2) (fun _ => rfl) ?_
        exact q_ex_ll (M_ready_b22_e h) ⟨rfl, rfl, rfl, trivial⟩
theorem M_ready_e {n : Nat} {r0 : (Int32) × J} {f : Nat} {x1 : Int32} {x2 : Int32} {σ : J} (h : M_ready n f x1 x2 σ = some r0) : q_ex q_pr n 1 109 0 (q_args 0 [.inr (.inr (some (24, 0))), .inl x1, .inl x2]) [] σ (M_ready_r r0) := q_ex_ll (M_ready_b0_e h) ⟨rfl, rfl, rfl, trivial⟩
def M_find_r : (Int32) × J → Res := fun q => (.inl (some (.inl q.1)), q.2)
-- 89: M_find
def M_find_b79 (n : Nat) (f : Nat) (l1 : Int32) (s1 : Int32) (s2 : Int32) (s3 : Int32) (σ : J) : Option ((Int32) × J) := (M_keep n f s1 s2 s3 σ).bind fun q12 => if q_in (3 * l1) 12 = true then some (q12.2.1 46 0 (3 * l1).toNatClampNeg, q12) else none
def M_find_b28 (n : Nat) (f : Nat) (l1 : Int32) (l2 : Int32) (l3 : Int32) (s2 : Int32) (s3 : Int32) (σ : J) : Option ((Int32) × J) := (M_first n f s2 s3 σ).bind fun q3 => q_bs (q_sI q3.2 24 0 0 q3.1) fun σ4 => if (σ4.1 24 0 0) ≤ 0 then if q_in l1 4 = true then q_bs (q_sA σ4 45 0 (upd (σ4.2.1 45 0) l1.toNatClampNeg 0)) fun σ5 => (M_clear n f l1 σ5).bind fun q6 => (M_search n f l1 l2 q6).bind fun q7 => if q7.1 = 0 then if 2 ≤ l3 then if q_in (q7.2.1 24 22 0) 4 = true then q_bs (q_sA q7.2 42 0 (upd (q7.2.2.1 42 0) ((q7.2.1 24 22 0).toNatClampNeg) l1)) fun σ8 => q_bs (q_sI σ8 24 22 0 ((σ8.1 24 22 0) + 1)) fun σ9 => if q_in l1 4 = true then q_bs (q_sA σ9 43 0 (upd (σ9.2.1 43 0) l1.toNatClampNeg l2)) fun σ10 => if q_in l1 4 = true then q_bs (q_sA σ10 44 0 (upd (σ10.2.1 44 0) l1.toNatClampNeg l3)) fun σ11 => some (0, σ11) else none else none else none else some ((-1), q7.2) else if (l3 &&& 1) = 1 then M_find_b79 n f l1 l1 l2 1 q7.2 else M_find_b79 n f l1 l1 l2 0 q7.2 else none else some (0, σ4)
def M_find_b27 (n : Nat) (f : Nat) (l1 : Int32) (l2 : Int32) (l3 : Int32) (s2 : Int32) (σ : J) : Option ((Int32) × J) := M_find_b28 n f l1 l2 l3 s2 0 σ
def M_find_b0 (n : Nat) (f : Nat) (l1 : Int32) (l2 : Int32) (l3 : Int32) (σ : J) : Option ((Int32) × J) := (M_ready n f l1 l2 σ).bind fun q1 => if q1.1 = 0 then M_find_b27 n f l1 l2 l3 l1 q1.2 else (M_within n l3.toInt64 3 q1.2).bind fun q2 => if q2.1 = 0 then M_find_b27 n f l1 l2 l3 l1 q2.2 else M_find_b28 n f l1 l2 l3 l1 1 q2.2
def M_find (n : Nat) (f : Nat) (x1 : Int32) (x2 : Int32) (x3 : Int32) (σ : J) : Option ((Int32) × J) := M_find_b0 n f x1 x2 x3 σ
theorem M_find_b79_e {n : Nat} {r0 : (Int32) × J} {f : Nat} {l1 : Int32} {s1 : Int32} {s2 : Int32} {s3 : Int32} {σ : J} (h : M_find_b79 n f l1 s1 s2 s3 σ = some r0) : q_ex q_pr n 5 89 79 (q_L [(0, .inr (.inr (some (24, 0)))), (1, .inl l1)]) [.inl s3, .inl s2, .inl s1, .inr (.inr (some (24, 0)))] σ (M_find_r r0) := by
  unfold M_find_b79 at h
  obtain ⟨q12, hq12, h⟩ := Option.bind_eq_some_iff.mp h
  refine q_ex_ca 1 (k1 := 100) (vs := [.inr (.inr (some (24, 0))), .inl s1, .inl s2, .inl s3]) (pc' := 82) (L' := (q_L [(0, .inr (.inr (some (24, 0)))), (1, .inl l1)])) (rest := []) (σ' := σ) (fun _ => rfl) (q_ex_dd (M_keep_e hq12) (Nat.le_of_ble_eq_true rfl)) rfl ?_
  refine q_by h (fun hz h => ?_)
  refine q_ex_gb 6 (pc' := 90) (L' := (q_L [(0, .inr (.inr (some (24, 0)))), (1, .inl l1)])) (st' := [.inl (q12.2.1 46 0 (3 * l1).toNatClampNeg)]) (σ' := q12) (fun _ => rfl) hz ?_
  cases h
  exact ⟨1, rfl⟩
theorem M_find_b28_e {n : Nat} {r0 : (Int32) × J} {f : Nat} {l1 : Int32} {l2 : Int32} {l3 : Int32} {s2 : Int32} {s3 : Int32} {σ : J} (h : M_find_b28 n f l1 l2 l3 s2 s3 σ = some r0) : q_ex q_pr n 5 89 28 (q_L [(0, .inr (.inr (some (24, 0)))), (1, .inl l1), (2, .inl l2), (3, .inl l3)]) [.inl s3, .inl s2, .inr (.inr (some (24, 0))), .inr (.inr (some (24, 0)))] σ (M_find_r r0) := by
  unfold M_find_b28 at h
  obtain ⟨q3, hq3, h⟩ := Option.bind_eq_some_iff.mp h
  refine q_ex_ca 1 (k1 := 90) (vs := [.inr (.inr (some (24, 0))), .inl s2, .inl s3]) (pc' := 31) (L' := (q_L [(0, .inr (.inr (some (24, 0)))), (1, .inl l1), (2, .inl l2), (3, .inl l3)])) (rest := [.inr (.inr (some (24, 0)))]) (σ' := σ) (fun _ => rfl) (q_ex_dd (M_first_e hq3) (Nat.le_of_ble_eq_true rfl)) rfl ?_
  refine q_ex_go 1 (pc' := 34) (L' := (q_L [(0, .inr (.inr (some (24, 0)))), (1, .inl l1), (2, .inl l2), (3, .inl l3)])) (st' := []) (σ' := (q_sI q3.2 24 0 0 q3.1)) (fun _ => rfl) ?_
  refine q_nm (G := fun τ => q_ex q_pr n _ 89 34 (q_L [(0, .inr (.inr (some (24, 0)))), (1, .inl l1), (2, .inl l2), (3, .inl l3)]) [] τ _) h (fun σ4 h => ?_)
  refine q_ex_br 3 (c := (σ4.1 24 0 0) ≤ 0) (pc1 := 43) (pc2 := 41) (L' := (q_L [(0, .inr (.inr (some (24, 0)))), (1, .inl l1), (2, .inl l2), (3, .inl l3)])) (st' := []) (σ' := σ4) (fun _ => rfl) (fun hc => ?_) (fun hc => ?_)
  · rw [if_pos hc] at h
    refine q_by h (fun hz h => ?_)
    refine q_ex_gb 5 (pc' := 50) (L' := (q_L [(0, .inr (.inr (some (24, 0)))), (1, .inl l1), (2, .inl l2), (3, .inl l3)])) (st' := []) (σ' := (q_sA σ4 45 0 (upd (σ4.2.1 45 0) l1.toNatClampNeg 0))) (fun _ => rfl) hz ?_
    refine q_nm (G := fun τ => q_ex q_pr n _ 89 50 (q_L [(0, .inr (.inr (some (24, 0)))), (1, .inl l1), (2, .inl l2), (3, .inl l3)]) [] τ _) h (fun σ5 h => ?_)
    obtain ⟨q6, hq6, h⟩ := Option.bind_eq_some_iff.mp h
    refine q_ex_ca 3 (k1 := 83) (vs := [.inr (.inr (some (24, 0))), .inl l1]) (pc' := 55) (L' := (q_L [(0, .inr (.inr (some (24, 0)))), (1, .inl l1), (2, .inl l2), (3, .inl l3)])) (rest := []) (σ' := σ5) (fun _ => rfl) (q_ex_dd (M_clear_e hq6) (Nat.le_of_ble_eq_true rfl)) rfl ?_
    obtain ⟨q7, hq7, h⟩ := Option.bind_eq_some_iff.mp h
    refine q_ex_ca 4 (k1 := 112) (vs := [.inr (.inr (some (24, 0))), .inl l1, .inl l2]) (pc' := 61) (L' := (q_L [(0, .inr (.inr (some (24, 0)))), (1, .inl l1), (2, .inl l2), (3, .inl l3)])) (rest := []) (σ' := q6) (fun _ => rfl) (q_ex_dd (M_search_e hq7) (Nat.le_of_ble_eq_true rfl)) rfl ?_
    refine q_ex_br 1 (c := q7.1 = 0) (pc1 := 91) (pc2 := 64) (L' := (q_L [(0, .inr (.inr (some (24, 0)))), (1, .inl l1), (2, .inl l2), (3, .inl l3)])) (st' := []) (σ' := q7.2) (fun _ => rfl) (fun hc => ?_) (fun hc => ?_)
    · rw [if_pos hc] at h
      refine q_ex_br 3 (c := 2 ≤ l3) (pc1 := 98) (pc2 := 96) (L' := (q_L [(0, .inr (.inr (some (24, 0)))), (1, .inl l1), (2, .inl l2), (3, .inl l3)])) (st' := []) (σ' := q7.2) (fun _ => rfl) (fun hc => ?_) (fun hc => ?_)
      · rw [if_pos hc] at h
        refine q_by h (fun hz h => ?_)
        refine q_ex_gb 6 (pc' := 108) (L' := (q_L [(0, .inr (.inr (some (24, 0)))), (1, .inl l1), (2, .inl l2), (3, .inl l3)])) (st' := []) (σ' := (q_sA q7.2 42 0 (upd (q7.2.2.1 42 0) ((q7.2.1 24 22 0).toNatClampNeg) l1))) (fun _ => rfl) hz ?_
        refine q_nm (G := fun τ => q_ex q_pr n _ 89 108 (q_L [(0, .inr (.inr (some (24, 0)))), (1, .inl l1), (2, .inl l2), (3, .inl l3)]) [] τ _) h (fun σ8 h => ?_)
        refine q_ex_go 6 (pc' := 118) (L' := (q_L [(0, .inr (.inr (some (24, 0)))), (1, .inl l1), (2, .inl l2), (3, .inl l3)])) (st' := []) (σ' := (q_sI σ8 24 22 0 ((σ8.1 24 22 0) + 1))) (fun _ => rfl) ?_
        refine q_nm (G := fun τ => q_ex q_pr n _ 89 118 (q_L [(0, .inr (.inr (some (24, 0)))), (1, .inl l1), (2, .inl l2), (3, .inl l3)]) [] τ _) h (fun σ9 h => ?_)
        refine q_by h (fun hz h => ?_)
        refine q_ex_gb 5 (pc' := 125) (L' := (q_L [(0, .inr (.inr (some (24, 0)))), (1, .inl l1), (2, .inl l2), (3, .inl l3)])) (st' := []) (σ' := (q_sA σ9 43 0 (upd (σ9.2.1 43 0) l1.toNatClampNeg l2))) (fun _ => rfl) hz ?_
        refine q_nm (G := fun τ => q_ex q_pr n _ 89 125 (q_L [(0, .inr (.inr (some (24, 0)))), (1, .inl l1), (2, .inl l2), (3, .inl l3)]) [] τ _) h (fun σ10 h => ?_)
        refine q_by h (fun hz h => ?_)
        refine q_ex_gb 5 (pc' := 132) (L' := (q_L [(0, .inr (.inr (some (24, 0)))), (1, .inl l1), (2, .inl l2), (3, .inl l3)])) (st' := []) (σ' := (q_sA σ10 44 0 (upd (σ10.2.1 44 0) l1.toNatClampNeg l3))) (fun _ => rfl) hz ?_
        refine q_nm (G := fun τ => q_ex q_pr n _ 89 132 (q_L [(0, .inr (.inr (some (24, 0)))), (1, .inl l1), (2, .inl l2), (3, .inl l3)]) [] τ _) h (fun σ11 h => ?_)
        refine q_ex_go 1 (pc' := 133) (L' := (q_L [(0, .inr (.inr (some (24, 0)))), (1, .inl l1), (2, .inl l2), (3, .inl l3)])) (st' := [.inl 0]) (σ' := σ11) (fun _ => rfl) ?_
        cases h
        exact ⟨1, rfl⟩
      · rw [if_neg hc] at h
        refine q_ex_go 1 (pc' := 97) (L' := (q_L [(0, .inr (.inr (some (24, 0)))), (1, .inl l1), (2, .inl l2), (3, .inl l3)])) (st' := [.inl (-1)]) (σ' := q7.2) (fun _ => rfl) ?_
        cases h
        exact ⟨1, rfl⟩
    · rw [if_neg hc] at h
      refine q_ex_br 8 (c := (l3 &&& 1) = 1) (pc1 := 74) (pc2 := 78) (L' := (q_L [(0, .inr (.inr (some (24, 0)))), (1, .inl l1), (2, .inl l2), (3, .inl l3)])) (st' := [.inl l2, .inl l1, .inr (.inr (some (24, 0)))]) (σ' := q7.2) (fun _ => rfl) (fun hc => ?_) (fun hc => ?_)
      · rw [if_pos hc] at h
        refine q_ex_go 2 (pc' := 79) (L' := (q_L [(0, .inr (.inr (some (24, 0)))), (1, .inl l1), (2, .inl l2), (3, .inl l3)])) (st' := [.inl 1, .inl l2, .inl l1, .inr (.inr (some (24, 0)))]) (σ' := q7.2) (fun _ => rfl) ?_
        exact q_ex_ll (M_find_b79_e h) ⟨rfl, rfl, trivial⟩
      · rw [if_neg hc] at h
        refine q_ex_go 1 (pc' := 79) (L' := (q_L [(0, .inr (.inr (some (24, 0)))), (1, .inl l1), (2, .inl l2), (3, .inl l3)])) (st' := [.inl 0, .inl l2, .inl l1, .inr (.inr (some (24, 0)))]) (σ' := q7.2) (fun _ => rfl) ?_
        exact q_ex_ll (M_find_b79_e h) ⟨rfl, rfl, trivial⟩
  · rw [if_neg hc] at h
    refine q_ex_go 1 (pc' := 42) (L' := (q_L [(0, .inr (.inr (some (24, 0)))), (1, .inl l1), (2, .inl l2), (3, .inl l3)])) (st' := [.inl 0]) (σ' := σ4) (fun _ => rfl) ?_
    cases h
    exact ⟨1, rfl⟩
theorem M_find_b27_e {n : Nat} {r0 : (Int32) × J} {f : Nat} {l1 : Int32} {l2 : Int32} {l3 : Int32} {s2 : Int32} {σ : J} (h : M_find_b27 n f l1 l2 l3 s2 σ = some r0) : q_ex q_pr n 5 89 27 (q_L [(0, .inr (.inr (some (24, 0)))), (1, .inl l1), (2, .inl l2), (3, .inl l3)]) [.inl s2, .inr (.inr (some (24, 0))), .inr (.inr (some (24, 0)))] σ (M_find_r r0) := by
  unfold M_find_b27 at h
  refine q_ex_go 1 (pc' := 28) (L' := (q_L [(0, .inr (.inr (some (24, 0)))), (1, .inl l1), (2, .inl l2), (3, .inl l3)])) (st' := [.inl 0, .inl s2, .inr (.inr (some (24, 0))), .inr (.inr (some (24, 0)))]) (σ' := σ) (fun _ => rfl) ?_
  exact q_ex_ll (M_find_b28_e h) ⟨rfl, rfl, rfl, rfl, trivial⟩
theorem M_find_b0_e {n : Nat} {r0 : (Int32) × J} {f : Nat} {l1 : Int32} {l2 : Int32} {l3 : Int32} {σ : J} (h : M_find_b0 n f l1 l2 l3 σ = some r0) : q_ex q_pr n 5 89 0 (q_L [(0, .inr (.inr (some (24, 0)))), (1, .inl l1), (2, .inl l2), (3, .inl l3)]) [] σ (M_find_r r0) := by
  unfold M_find_b0 at h
  obtain ⟨q1, hq1, h⟩ := Option.bind_eq_some_iff.mp h
  refine q_ex_ca 7 (k1 := 109) (vs := [.inr (.inr (some (24, 0))), .inl l1, .inl l2]) (pc' := 9) (L' := (q_L [(0, .inr (.inr (some (24, 0)))), (1, .inl l1), (2, .inl l2), (3, .inl l3)])) (rest := [.inl l1, .inr (.inr (some (24, 0))), .inr (.inr (some (24, 0)))]) (σ' := σ) (fun _ => rfl) (q_ex_dd (M_ready_e hq1) (Nat.le_of_ble_eq_true rfl)) rfl ?_
  refine q_ex_br 1 (c := q1.1 = 0) (pc1 := 27) (pc2 := 12) (L' := (q_L [(0, .inr (.inr (some (24, 0)))), (1, .inl l1), (2, .inl l2), (3, .inl l3)])) (st' := [.inl l1, .inr (.inr (some (24, 0))), .inr (.inr (some (24, 0)))]) (σ' := q1.2) (fun _ => rfl) (fun hc => ?_) (fun hc => ?_)
  · rw [if_pos hc] at h
    exact q_ex_ll (M_find_b27_e h) ⟨rfl, rfl, rfl, rfl, trivial⟩
  · rw [if_neg hc] at h
    obtain ⟨q2, hq2, h⟩ := Option.bind_eq_some_iff.mp h
    refine q_ex_ca 4 (k1 := 122) (vs := [.inr (.inl l3.toInt64), .inr (.inl 3)]) (pc' := 20) (L' := (q_L [(0, .inr (.inr (some (24, 0)))), (1, .inl l1), (2, .inl l2), (3, .inl l3)])) (rest := [.inl l1, .inr (.inr (some (24, 0))), .inr (.inr (some (24, 0)))]) (σ' := q1.2) (fun _ => rfl) (q_ex_dd (M_within_e hq2) (Nat.le_of_ble_eq_true rfl)) rfl ?_
    refine q_ex_br 1 (c := q2.1 = 0) (pc1 := 27) (pc2 := 23) (L' := (q_L [(0, .inr (.inr (some (24, 0)))), (1, .inl l1), (2, .inl l2), (3, .inl l3)])) (st' := [.inl l1, .inr (.inr (some (24, 0))), .inr (.inr (some (24, 0)))]) (σ' := q2.2) (fun _ => rfl) (fun hc => ?_) (fun hc => ?_)
    · rw [if_pos hc] at h
      exact q_ex_ll (M_find_b27_e h) ⟨rfl, rfl, rfl, rfl, trivial⟩
    · rw [if_neg hc] at h
      refine q_ex_go 2 (pc' := 28) (L' := (q_L [(0, .inr (.inr (some (24, 0)))), (1, .inl l1), (2, .inl l2), (3, .inl l3)])) (st' := [.inl 1, .inl l1, .inr (.inr (some (24, 0))), .inr (.inr (some (24, 0)))]) (σ' := q2.2) (fun _ => rfl) ?_
      exact q_ex_ll (M_find_b28_e h) ⟨rfl, rfl, rfl, rfl, trivial⟩
theorem M_find_e {n : Nat} {r0 : (Int32) × J} {f : Nat} {x1 : Int32} {x2 : Int32} {x3 : Int32} {σ : J} (h : M_find n f x1 x2 x3 σ = some r0) : q_ex q_pr n 5 89 0 (q_args 0 [.inr (.inr (some (24, 0))), .inl x1, .inl x2, .inl x3]) [] σ (M_find_r r0) := q_ex_ll (M_find_b0_e h) ⟨rfl, rfl, rfl, rfl, trivial⟩
def M_fold_r : (Int64) × J → Res := fun q => (.inl (some (.inr (.inl q.1))), q.2)
-- 92: M_fold
def M_fold_b243 (n : Nat) (f : Nat) (s0 : Int64) (σ : J) : Option ((Int64) × J) := some (s0, σ)
def M_fold_b205 (n : Nat) (k72 : Int32 → Int32 → Int32 → Int32 → Int32 → Int64 → Int64 → Int64 → Int32 → J → Option ((Int64) × J)) (f : Nat) (l1 : Int32) (l2 : Int32) (l3 : Int32) (l4 : Int32) (l5 : Int32) (l6 : Int64) (l8 : Int64) (l10 : Int64) (l12 : Int32) (σ : J) : Option ((Int64) × J) := k72 l1 l2 l3 l4 l5 l6 l8 l10 (l12 + 1) σ
def M_fold_b200 (n : Nat) (k72 : Int32 → Int32 → Int32 → Int32 → Int32 → Int64 → Int64 → Int64 → Int32 → J → Option ((Int64) × J)) (f : Nat) (l1 : Int32) (l2 : Int32) (l3 : Int32) (l4 : Int32) (l6 : Int64) (l8 : Int64) (l12 : Int32) (s0 : Int64) (σ : J) : Option ((Int64) × J) := M_fold_b205 n k72 f l1 l2 l3 l4 1 l6 l8 s0 l12 σ
def M_fold_b193 (n : Nat) (k72 : Int32 → Int32 → Int32 → Int32 → Int32 → Int64 → Int64 → Int64 → Int32 → J → Option ((Int64) × J)) (f : Nat) (l1 : Int32) (l2 : Int32) (l3 : Int32) (l4 : Int32) (l6 : Int64) (l8 : Int64) (l12 : Int32) (l13 : Int64) (σ : J) : Option ((Int64) × J) := M_fold_b200 n k72 f l1 l2 l3 l4 l6 l8 l12 l13 σ
def M_fold_b178 (n : Nat) (k72 : Int32 → Int32 → Int32 → Int32 → Int32 → Int64 → Int64 → Int64 → Int32 → J → Option ((Int64) × J)) (f : Nat) (l1 : Int32) (l2 : Int32) (l3 : Int32) (l4 : Int32) (l5 : Int32) (l6 : Int64) (l10 : Int64) (l12 : Int32) (l13 : Int64) (s0 : Int64) (σ : J) : Option ((Int64) × J) := if l5 = 0 then M_fold_b193 n k72 f l1 l2 l3 l4 l6 s0 l12 l13 σ else if (lg_cmp l13 l10) ≤ 0 then M_fold_b200 n k72 f l1 l2 l3 l4 l6 s0 l12 l10 σ else M_fold_b193 n k72 f l1 l2 l3 l4 l6 s0 l12 l13 σ
def M_fold_b171 (n : Nat) (k72 : Int32 → Int32 → Int32 → Int32 → Int32 → Int64 → Int64 → Int64 → Int32 → J → Option ((Int64) × J)) (f : Nat) (l1 : Int32) (l2 : Int32) (l3 : Int32) (l4 : Int32) (l5 : Int32) (l6 : Int64) (l10 : Int64) (l12 : Int32) (l13 : Int64) (σ : J) : Option ((Int64) × J) := M_fold_b178 n k72 f l1 l2 l3 l4 l5 l6 l10 l12 l13 l13 σ
def M_fold_b72 (n : Nat) (k72 : Int32 → Int32 → Int32 → Int32 → Int32 → Int64 → Int64 → Int64 → Int32 → J → Option ((Int64) × J)) (f : Nat) (l1 : Int32) (l2 : Int32) (l3 : Int32) (l4 : Int32) (l5 : Int32) (l6 : Int64) (l8 : Int64) (l10 : Int64) (l12 : Int32) (σ : J) : Option ((Int64) × J) := if (σ.1 24 1 0) ≤ l12 then if l3 = 0 then M_fold_b243 n f l4.toInt64 σ else if l3 = 1 then M_fold_b243 n f l6 σ else if l3 = 2 then M_fold_b243 n f l8 σ else M_fold_b243 n f l10 σ else (M_sees n l1 l12 σ).bind fun q6 => if q6.1 = 0 then M_fold_b205 n k72 f l1 l2 l3 l4 l5 l6 l8 l10 l12 q6.2 else (M_fits n f l12 (3 * l1) 0 q6.2).bind fun q7 => if q7.1 = 0 then M_fold_b205 n k72 f l1 l2 l3 l4 l5 l6 l8 l10 l12 q7.2 else if q_in l12 20 = true then if (q7.2.2.1 26 0 l12.toNatClampNeg) ≤ l2 then M_fold_b205 n k72 f l1 l2 l3 (l4 + 1) l5 l6 l8 l10 l12 q7.2 else if q_in ((4 * l12) + l2) 80 = true then if (q7.2.2.1 32 0 ((4 * l12) + l2).toNatClampNeg) = 0 then if q_in ((4 * l12) + l2) 80 = true then if l5 = 0 then M_fold_b171 n k72 f l1 l2 l3 (l4 + 1) l5 (l6 + (q7.2.2.2.1 33 0 ((4 * l12) + l2).toNatClampNeg)) l10 l12 (q7.2.2.2.1 33 0 ((4 * l12) + l2).toNatClampNeg) q7.2 else if 0 ≤ (lg_cmp (q7.2.2.2.1 33 0 ((4 * l12) + l2).toNatClampNeg) l8) then M_fold_b178 n k72 f l1 l2 l3 (l4 + 1) l5 (l6 + (q7.2.2.2.1 33 0 ((4 * l12) + l2).toNatClampNeg)) l10 l12 (q7.2.2.2.1 33 0 ((4 * l12) + l2).toNatClampNeg) l8 q7.2 else M_fold_b171 n k72 f l1 l2 l3 (l4 + 1) l5 (l6 + (q7.2.2.2.1 33 0 ((4 * l12) + l2).toNatClampNeg)) l10 l12 (q7.2.2.2.1 33 0 ((4 * l12) + l2).toNatClampNeg) q7.2 else none else M_fold_b205 n k72 f l1 l2 l3 (l4 + 1) l5 l6 l8 l10 l12 q7.2 else none else none
def M_fold_L72 (n : Nat) : Nat → Int32 → Int32 → Int32 → Int32 → Int32 → Int64 → Int64 → Int64 → Int32 → J → Option ((Int64) × J)
  | 0 => fun _ _ _ _ _ _ _ _ _ _ => none
  | f + 1 => fun l1 l2 l3 l4 l5 l6 l8 l10 l12 σ => M_fold_b72 n (M_fold_L72 n f) f l1 l2 l3 l4 l5 l6 l8 l10 l12 σ
def M_fold_b39 (n : Nat) (f : Nat) (l1 : Int32) (l2 : Int32) (l3 : Int32) (s2 : Int32) (s3 : Int32) (σ : J) : Option ((Int64) × J) := (M_first n f s2 s3 σ).bind fun q4 => q_bs (q_sI q4.2 24 0 0 q4.1) fun σ5 => if (σ5.1 24 0 0) ≤ 0 then M_fold_L72 n f l1 l2 l3 0 0 0 0 0 0 σ5 else some (0, σ5)
def M_fold_b38 (n : Nat) (f : Nat) (l1 : Int32) (l2 : Int32) (l3 : Int32) (s2 : Int32) (σ : J) : Option ((Int64) × J) := M_fold_b39 n f l1 l2 l3 s2 0 σ
def M_fold_b0 (n : Nat) (f : Nat) (l1 : Int32) (l2 : Int32) (l3 : Int32) (σ : J) : Option ((Int64) × J) := (M_ready n f l1 1 σ).bind fun q1 => if q1.1 = 0 then M_fold_b38 n f l1 l2 l3 l1 q1.2 else (M_within n l2.toInt64 3 q1.2).bind fun q2 => if q2.1 = 0 then M_fold_b38 n f l1 l2 l3 l1 q2.2 else (M_within n l3.toInt64 3 q2.2).bind fun q3 => if q3.1 = 0 then M_fold_b38 n f l1 l2 l3 l1 q3.2 else M_fold_b39 n f l1 l2 l3 l1 1 q3.2
def M_fold (n : Nat) (f : Nat) (x1 : Int32) (x2 : Int32) (x3 : Int32) (σ : J) : Option ((Int64) × J) := M_fold_b0 n f x1 x2 x3 σ
theorem M_fold_b243_e {n : Nat} {r0 : (Int64) × J} {f : Nat} {s0 : Int64} {σ : J} (h : M_fold_b243 n f s0 σ = some r0) : q_ex q_pr n 3 92 243 (q_L []) [.inr (.inl s0)] σ (M_fold_r r0) := by
  unfold M_fold_b243 at h
  cases h
  exact ⟨1, rfl⟩
theorem M_fold_b205_e {n : Nat} {r0 : (Int64) × J} {k72 : Int32 → Int32 → Int32 → Int32 → Int32 → Int64 → Int64 → Int64 → Int32 → J → Option ((Int64) × J)} {f : Nat} {l1 : Int32} {l2 : Int32} {l3 : Int32} {l4 : Int32} {l5 : Int32} {l6 : Int64} {l8 : Int64} {l10 : Int64} {l12 : Int32} {σ : J} (hk72 : ∀ {l1 : Int32} {l2 : Int32} {l3 : Int32} {l4 : Int32} {l5 : Int32} {l6 : Int64} {l8 : Int64} {l10 : Int64} {l12 : Int32} {σ : J}, k72 l1 l2 l3 l4 l5 l6 l8 l10 l12 σ = some r0 → q_ex q_pr n 3 92 72 (q_L [(0, .inr (.inr (some (24, 0)))), (1, .inl l1), (2, .inl l2), (3, .inl l3), (4, .inl l4), (5, .inl l5), (6, .inr (.inl l6)), (8, .inr (.inl l8)), (10, .inr (.inl l10)), (12, .inl l12)]) [] σ (M_fold_r r0)) (h : M_fold_b205 n k72 f l1 l2 l3 l4 l5 l6 l8 l10 l12 σ = some r0) : q_ex q_pr n 3 92 205 (q_L [(0, .inr (.inr (some (24, 0)))), (1, .inl l1), (2, .inl l2), (3, .inl l3), (4, .inl l4), (5, .inl l5), (6, .inr (.inl l6)), (8, .inr (.inl l8)), (10, .inr (.inl l10)), (12, .inl l12)]) [] σ (M_fold_r r0) := by
  unfold M_fold_b205 at h
  refine q_ex_go 2 (pc' := 72) (L' := (q_s1 (q_L [(0, .inr (.inr (some (24, 0)))), (1, .inl l1), (2, .inl l2), (3, .inl l3), (4, .inl l4), (5, .inl l5), (6, .inr (.inl l6)), (8, .inr (.inl l8)), (10, .inr (.inl l10)), (12, .inl l12)]) 12 (.inl (l12 + 1)))) (st' := []) (σ' := σ) (fun _ => rfl) ?_
  exact q_ex_ll (hk72 h) ⟨rfl, rfl, rfl, rfl, rfl, rfl, rfl, rfl, rfl, rfl, trivial⟩
theorem M_fold_b200_e {n : Nat} {r0 : (Int64) × J} {k72 : Int32 → Int32 → Int32 → Int32 → Int32 → Int64 → Int64 → Int64 → Int32 → J → Option ((Int64) × J)} {f : Nat} {l1 : Int32} {l2 : Int32} {l3 : Int32} {l4 : Int32} {l6 : Int64} {l8 : Int64} {l12 : Int32} {s0 : Int64} {σ : J} (hk72 : ∀ {l1 : Int32} {l2 : Int32} {l3 : Int32} {l4 : Int32} {l5 : Int32} {l6 : Int64} {l8 : Int64} {l10 : Int64} {l12 : Int32} {σ : J}, k72 l1 l2 l3 l4 l5 l6 l8 l10 l12 σ = some r0 → q_ex q_pr n 3 92 72 (q_L [(0, .inr (.inr (some (24, 0)))), (1, .inl l1), (2, .inl l2), (3, .inl l3), (4, .inl l4), (5, .inl l5), (6, .inr (.inl l6)), (8, .inr (.inl l8)), (10, .inr (.inl l10)), (12, .inl l12)]) [] σ (M_fold_r r0)) (h : M_fold_b200 n k72 f l1 l2 l3 l4 l6 l8 l12 s0 σ = some r0) : q_ex q_pr n 3 92 200 (q_L [(0, .inr (.inr (some (24, 0)))), (1, .inl l1), (2, .inl l2), (3, .inl l3), (4, .inl l4), (6, .inr (.inl l6)), (8, .inr (.inl l8)), (12, .inl l12)]) [.inr (.inl s0)] σ (M_fold_r r0) := by
  unfold M_fold_b200 at h
  refine q_ex_go 3 (pc' := 205) (L' := (q_s1 (q_s2 (q_L [(0, .inr (.inr (some (24, 0)))), (1, .inl l1), (2, .inl l2), (3, .inl l3), (4, .inl l4), (6, .inr (.inl l6)), (8, .inr (.inl l8)), (12, .inl l12)]) 10 (.inr (.inl s0))) 5 (.inl 1))) (st' := []) (σ' := σ) (fun _ => rfl) ?_
  exact q_ex_ll (M_fold_b205_e hk72 h) ⟨rfl, rfl, rfl, rfl, rfl, rfl, rfl, rfl, rfl, rfl, trivial⟩
theorem M_fold_b193_e {n : Nat} {r0 : (Int64) × J} {k72 : Int32 → Int32 → Int32 → Int32 → Int32 → Int64 → Int64 → Int64 → Int32 → J → Option ((Int64) × J)} {f : Nat} {l1 : Int32} {l2 : Int32} {l3 : Int32} {l4 : Int32} {l6 : Int64} {l8 : Int64} {l12 : Int32} {l13 : Int64} {σ : J} (hk72 : ∀ {l1 : Int32} {l2 : Int32} {l3 : Int32} {l4 : Int32} {l5 : Int32} {l6 : Int64} {l8 : Int64} {l10 : Int64} {l12 : Int32} {σ : J}, k72 l1 l2 l3 l4 l5 l6 l8 l10 l12 σ = some r0 → q_ex q_pr n 3 92 72 (q_L [(0, .inr (.inr (some (24, 0)))), (1, .inl l1), (2, .inl l2), (3, .inl l3), (4, .inl l4), (5, .inl l5), (6, .inr (.inl l6)), (8, .inr (.inl l8)), (10, .inr (.inl l10)), (12, .inl l12)]) [] σ (M_fold_r r0)) (h : M_fold_b193 n k72 f l1 l2 l3 l4 l6 l8 l12 l13 σ = some r0) : q_ex q_pr n 3 92 193 (q_L [(0, .inr (.inr (some (24, 0)))), (1, .inl l1), (2, .inl l2), (3, .inl l3), (4, .inl l4), (6, .inr (.inl l6)), (8, .inr (.inl l8)), (12, .inl l12), (13, .inr (.inl l13))]) [] σ (M_fold_r r0) := by
  unfold M_fold_b193 at h
  refine q_ex_go 2 (pc' := 200) (L' := (q_L [(0, .inr (.inr (some (24, 0)))), (1, .inl l1), (2, .inl l2), (3, .inl l3), (4, .inl l4), (6, .inr (.inl l6)), (8, .inr (.inl l8)), (12, .inl l12), (13, .inr (.inl l13))])) (st' := [.inr (.inl l13)]) (σ' := σ) (fun _ => rfl) ?_
  exact q_ex_ll (M_fold_b200_e hk72 h) ⟨rfl, rfl, rfl, rfl, rfl, rfl, rfl, rfl, trivial⟩
theorem M_fold_b178_e {n : Nat} {r0 : (Int64) × J} {k72 : Int32 → Int32 → Int32 → Int32 → Int32 → Int64 → Int64 → Int64 → Int32 → J → Option ((Int64) × J)} {f : Nat} {l1 : Int32} {l2 : Int32} {l3 : Int32} {l4 : Int32} {l5 : Int32} {l6 : Int64} {l10 : Int64} {l12 : Int32} {l13 : Int64} {s0 : Int64} {σ : J} (hk72 : ∀ {l1 : Int32} {l2 : Int32} {l3 : Int32} {l4 : Int32} {l5 : Int32} {l6 : Int64} {l8 : Int64} {l10 : Int64} {l12 : Int32} {σ : J}, k72 l1 l2 l3 l4 l5 l6 l8 l10 l12 σ = some r0 → q_ex q_pr n 3 92 72 (q_L [(0, .inr (.inr (some (24, 0)))), (1, .inl l1), (2, .inl l2), (3, .inl l3), (4, .inl l4), (5, .inl l5), (6, .inr (.inl l6)), (8, .inr (.inl l8)), (10, .inr (.inl l10)), (12, .inl l12)]) [] σ (M_fold_r r0)) (h : M_fold_b178 n k72 f l1 l2 l3 l4 l5 l6 l10 l12 l13 s0 σ = some r0) : q_ex q_pr n 3 92 178 (q_L [(0, .inr (.inr (some (24, 0)))), (1, .inl l1), (2, .inl l2), (3, .inl l3), (4, .inl l4), (5, .inl l5), (6, .inr (.inl l6)), (10, .inr (.inl l10)), (12, .inl l12), (13, .inr (.inl l13))]) [.inr (.inl s0)] σ (M_fold_r r0) := by
  unfold M_fold_b178 at h
  refine q_ex_br 3 (c := l5 = 0) (pc1 := 193) (pc2 := 185) (L' := (q_s2 (q_L [(0, .inr (.inr (some (24, 0)))), (1, .inl l1), (2, .inl l2), (3, .inl l3), (4, .inl l4), (5, .inl l5), (6, .inr (.inl l6)), (10, .inr (.inl l10)), (12, .inl l12), (13, .inr (.inl l13))]) 8 (.inr (.inl s0)))) (st' := []) (σ' := σ) (fun _ => rfl) (fun hc => ?_) (fun hc => ?_)
  · rw [if_pos hc] at h
    exact q_ex_ll (M_fold_b193_e hk72 h) ⟨rfl, rfl, rfl, rfl, rfl, rfl, rfl, rfl, rfl, trivial⟩
  · rw [if_neg hc] at h
    refine q_ex_br 4 (c := (lg_cmp l13 l10) ≤ 0) (pc1 := 198) (pc2 := 193) (L' := (q_s2 (q_L [(0, .inr (.inr (some (24, 0)))), (1, .inl l1), (2, .inl l2), (3, .inl l3), (4, .inl l4), (5, .inl l5), (6, .inr (.inl l6)), (10, .inr (.inl l10)), (12, .inl l12), (13, .inr (.inl l13))]) 8 (.inr (.inl s0)))) (st' := []) (σ' := σ) (fun _ => rfl) (fun hc => ?_) (fun hc => ?_)
    · rw [if_pos hc] at h
      refine q_ex_go 1 (pc' := 200) (L' := (q_s2 (q_L [(0, .inr (.inr (some (24, 0)))), (1, .inl l1), (2, .inl l2), (3, .inl l3), (4, .inl l4), (5, .inl l5), (6, .inr (.inl l6)), (10, .inr (.inl l10)), (12, .inl l12), (13, .inr (.inl l13))]) 8 (.inr (.inl s0)))) (st' := [.inr (.inl l10)]) (σ' := σ) (fun _ => rfl) ?_
      exact q_ex_ll (M_fold_b200_e hk72 h) ⟨rfl, rfl, rfl, rfl, rfl, rfl, rfl, rfl, trivial⟩
    · rw [if_neg hc] at h
      exact q_ex_ll (M_fold_b193_e hk72 h) ⟨rfl, rfl, rfl, rfl, rfl, rfl, rfl, rfl, rfl, trivial⟩
theorem M_fold_b171_e {n : Nat} {r0 : (Int64) × J} {k72 : Int32 → Int32 → Int32 → Int32 → Int32 → Int64 → Int64 → Int64 → Int32 → J → Option ((Int64) × J)} {f : Nat} {l1 : Int32} {l2 : Int32} {l3 : Int32} {l4 : Int32} {l5 : Int32} {l6 : Int64} {l10 : Int64} {l12 : Int32} {l13 : Int64} {σ : J} (hk72 : ∀ {l1 : Int32} {l2 : Int32} {l3 : Int32} {l4 : Int32} {l5 : Int32} {l6 : Int64} {l8 : Int64} {l10 : Int64} {l12 : Int32} {σ : J}, k72 l1 l2 l3 l4 l5 l6 l8 l10 l12 σ = some r0 → q_ex q_pr n 3 92 72 (q_L [(0, .inr (.inr (some (24, 0)))), (1, .inl l1), (2, .inl l2), (3, .inl l3), (4, .inl l4), (5, .inl l5), (6, .inr (.inl l6)), (8, .inr (.inl l8)), (10, .inr (.inl l10)), (12, .inl l12)]) [] σ (M_fold_r r0)) (h : M_fold_b171 n k72 f l1 l2 l3 l4 l5 l6 l10 l12 l13 σ = some r0) : q_ex q_pr n 3 92 171 (q_L [(0, .inr (.inr (some (24, 0)))), (1, .inl l1), (2, .inl l2), (3, .inl l3), (4, .inl l4), (5, .inl l5), (6, .inr (.inl l6)), (10, .inr (.inl l10)), (12, .inl l12), (13, .inr (.inl l13))]) [] σ (M_fold_r r0) := by
  unfold M_fold_b171 at h
  refine q_ex_go 2 (pc' := 178) (L' := (q_L [(0, .inr (.inr (some (24, 0)))), (1, .inl l1), (2, .inl l2), (3, .inl l3), (4, .inl l4), (5, .inl l5), (6, .inr (.inl l6)), (10, .inr (.inl l10)), (12, .inl l12), (13, .inr (.inl l13))])) (st' := [.inr (.inl l13)]) (σ' := σ) (fun _ => rfl) ?_
  exact q_ex_ll (M_fold_b178_e hk72 h) ⟨rfl, rfl, rfl, rfl, rfl, rfl, rfl, rfl, rfl, rfl, trivial⟩
theorem M_fold_b72_e {n : Nat} {r0 : (Int64) × J} {k72 : Int32 → Int32 → Int32 → Int32 → Int32 → Int64 → Int64 → Int64 → Int32 → J → Option ((Int64) × J)} {f : Nat} {l1 : Int32} {l2 : Int32} {l3 : Int32} {l4 : Int32} {l5 : Int32} {l6 : Int64} {l8 : Int64} {l10 : Int64} {l12 : Int32} {σ : J} (hk72 : ∀ {l1 : Int32} {l2 : Int32} {l3 : Int32} {l4 : Int32} {l5 : Int32} {l6 : Int64} {l8 : Int64} {l10 : Int64} {l12 : Int32} {σ : J}, k72 l1 l2 l3 l4 l5 l6 l8 l10 l12 σ = some r0 → q_ex q_pr n 3 92 72 (q_L [(0, .inr (.inr (some (24, 0)))), (1, .inl l1), (2, .inl l2), (3, .inl l3), (4, .inl l4), (5, .inl l5), (6, .inr (.inl l6)), (8, .inr (.inl l8)), (10, .inr (.inl l10)), (12, .inl l12)]) [] σ (M_fold_r r0)) (h : M_fold_b72 n k72 f l1 l2 l3 l4 l5 l6 l8 l10 l12 σ = some r0) : q_ex q_pr n 3 92 72 (q_L [(0, .inr (.inr (some (24, 0)))), (1, .inl l1), (2, .inl l2), (3, .inl l3), (4, .inl l4), (5, .inl l5), (6, .inr (.inl l6)), (8, .inr (.inl l8)), (10, .inr (.inl l10)), (12, .inl l12)]) [] σ (M_fold_r r0) := by
  unfold M_fold_b72 at h
  refine q_ex_br 4 (c := (σ.1 24 1 0) ≤ l12) (pc1 := 211) (pc2 := 81) (L' := (q_L [(0, .inr (.inr (some (24, 0)))), (1, .inl l1), (2, .inl l2), (3, .inl l3), (4, .inl l4), (5, .inl l5), (6, .inr (.inl l6)), (8, .inr (.inl l8)), (10, .inr (.inl l10)), (12, .inl l12)])) (st' := []) (σ' := σ) (fun _ => rfl) (fun hc => ?_) (fun hc => ?_)
  · rw [if_pos hc] at h
    refine q_ex_br 2 (c := l3 = 0) (pc1 := 215) (pc2 := 221) (L' := (q_L [(0, .inr (.inr (some (24, 0)))), (1, .inl l1), (2, .inl l2), (3, .inl l3), (4, .inl l4), (5, .inl l5), (6, .inr (.inl l6)), (8, .inr (.inl l8)), (10, .inr (.inl l10)), (12, .inl l12)])) (st' := []) (σ' := σ) (fun _ => rfl) (fun hc => ?_) (fun hc => ?_)
    · rw [if_pos hc] at h
      refine q_ex_go 3 (pc' := 243) (L' := (q_L [(0, .inr (.inr (some (24, 0)))), (1, .inl l1), (2, .inl l2), (3, .inl l3), (4, .inl l4), (5, .inl l5), (6, .inr (.inl l6)), (8, .inr (.inl l8)), (10, .inr (.inl l10)), (12, .inl l12)])) (st' := [.inr (.inl l4.toInt64)]) (σ' := σ) (fun _ => rfl) ?_
      exact q_ex_ll (M_fold_b243_e h) trivial
    · rw [if_neg hc] at h
      refine q_ex_br 3 (c := l3 = 1) (pc1 := 226) (pc2 := 231) (L' := (q_L [(0, .inr (.inr (some (24, 0)))), (1, .inl l1), (2, .inl l2), (3, .inl l3), (4, .inl l4), (5, .inl l5), (6, .inr (.inl l6)), (8, .inr (.inl l8)), (10, .inr (.inl l10)), (12, .inl l12)])) (st' := []) (σ' := σ) (fun _ => rfl) (fun hc => ?_) (fun hc => ?_)
      · rw [if_pos hc] at h
        refine q_ex_go 2 (pc' := 243) (L' := (q_L [(0, .inr (.inr (some (24, 0)))), (1, .inl l1), (2, .inl l2), (3, .inl l3), (4, .inl l4), (5, .inl l5), (6, .inr (.inl l6)), (8, .inr (.inl l8)), (10, .inr (.inl l10)), (12, .inl l12)])) (st' := [.inr (.inl l6)]) (σ' := σ) (fun _ => rfl) ?_
        exact q_ex_ll (M_fold_b243_e h) trivial
      · rw [if_neg hc] at h
        refine q_ex_br 3 (c := l3 = 2) (pc1 := 236) (pc2 := 241) (L' := (q_L [(0, .inr (.inr (some (24, 0)))), (1, .inl l1), (2, .inl l2), (3, .inl l3), (4, .inl l4), (5, .inl l5), (6, .inr (.inl l6)), (8, .inr (.inl l8)), (10, .inr (.inl l10)), (12, .inl l12)])) (st' := []) (σ' := σ) (fun _ => rfl) (fun hc => ?_) (fun hc => ?_)
        · rw [if_pos hc] at h
          refine q_ex_go 2 (pc' := 243) (L' := (q_L [(0, .inr (.inr (some (24, 0)))), (1, .inl l1), (2, .inl l2), (3, .inl l3), (4, .inl l4), (5, .inl l5), (6, .inr (.inl l6)), (8, .inr (.inl l8)), (10, .inr (.inl l10)), (12, .inl l12)])) (st' := [.inr (.inl l8)]) (σ' := σ) (fun _ => rfl) ?_
          exact q_ex_ll (M_fold_b243_e h) trivial
        · rw [if_neg hc] at h
          refine q_ex_go 1 (pc' := 243) (L' := (q_L [(0, .inr (.inr (some (24, 0)))), (1, .inl l1), (2, .inl l2), (3, .inl l3), (4, .inl l4), (5, .inl l5), (6, .inr (.inl l6)), (8, .inr (.inl l8)), (10, .inr (.inl l10)), (12, .inl l12)])) (st' := [.inr (.inl l10)]) (σ' := σ) (fun _ => rfl) ?_
          exact q_ex_ll (M_fold_b243_e h) trivial
  · rw [if_neg hc] at h
    obtain ⟨q6, hq6, h⟩ := Option.bind_eq_some_iff.mp h
    refine q_ex_ca 4 (k1 := 114) (vs := [.inr (.inr (some (24, 0))), .inl l1, .inl l12]) (pc' := 88) (L' := (q_L [(0, .inr (.inr (some (24, 0)))), (1, .inl l1), (2, .inl l2), (3, .inl l3), (4, .inl l4), (5, .inl l5), (6, .inr (.inl l6)), (8, .inr (.inl l8)), (10, .inr (.inl l10)), (12, .inl l12)])) (rest := []) (σ' := σ) (fun _ => rfl) (q_ex_dd (M_sees_e hq6) (Nat.le_of_ble_eq_true rfl)) rfl ?_
    refine q_ex_br 1 (c := q6.1 = 0) (pc1 := 205) (pc2 := 91) (L' := (q_L [(0, .inr (.inr (some (24, 0)))), (1, .inl l1), (2, .inl l2), (3, .inl l3), (4, .inl l4), (5, .inl l5), (6, .inr (.inl l6)), (8, .inr (.inl l8)), (10, .inr (.inl l10)), (12, .inl l12)])) (st' := []) (σ' := q6.2) (fun _ => rfl) (fun hc => ?_) (fun hc => ?_)
    · rw [if_pos hc] at h
      exact q_ex_ll (M_fold_b205_e hk72 h) ⟨rfl, rfl, rfl, rfl, rfl, rfl, rfl, rfl, rfl, rfl, trivial⟩
    · rw [if_neg hc] at h
      obtain ⟨q7, hq7, h⟩ := Option.bind_eq_some_iff.mp h
      refine q_ex_ca 7 (k1 := 91) (vs := [.inr (.inr (some (24, 0))), .inl l12, .inl (3 * l1), .inl 0]) (pc' := 101) (L' := (q_L [(0, .inr (.inr (some (24, 0)))), (1, .inl l1), (2, .inl l2), (3, .inl l3), (4, .inl l4), (5, .inl l5), (6, .inr (.inl l6)), (8, .inr (.inl l8)), (10, .inr (.inl l10)), (12, .inl l12)])) (rest := []) (σ' := q6.2) (fun _ => rfl) (q_ex_dd (M_fits_e hq7) (Nat.le_of_ble_eq_true rfl)) rfl ?_
      refine q_ex_br 1 (c := q7.1 = 0) (pc1 := 104) (pc2 := 107) (L' := (q_L [(0, .inr (.inr (some (24, 0)))), (1, .inl l1), (2, .inl l2), (3, .inl l3), (4, .inl l4), (5, .inl l5), (6, .inr (.inl l6)), (8, .inr (.inl l8)), (10, .inr (.inl l10)), (12, .inl l12)])) (st' := []) (σ' := q7.2) (fun _ => rfl) (fun hc => ?_) (fun hc => ?_)
      · rw [if_pos hc] at h
        refine q_ex_go 1 (pc' := 205) (L' := (q_L [(0, .inr (.inr (some (24, 0)))), (1, .inl l1), (2, .inl l2), (3, .inl l3), (4, .inl l4), (5, .inl l5), (6, .inr (.inl l6)), (8, .inr (.inl l8)), (10, .inr (.inl l10)), (12, .inl l12)])) (st' := []) (σ' := q7.2) (fun _ => rfl) ?_
        exact q_ex_ll (M_fold_b205_e hk72 h) ⟨rfl, rfl, rfl, rfl, rfl, rfl, rfl, rfl, rfl, rfl, trivial⟩
      · rw [if_neg hc] at h
        refine q_by h (fun hz h => ?_)
        refine q_ex_gb 6 (pc' := 118) (L' := (q_s1 (q_L [(0, .inr (.inr (some (24, 0)))), (1, .inl l1), (2, .inl l2), (3, .inl l3), (4, .inl l4), (5, .inl l5), (6, .inr (.inl l6)), (8, .inr (.inl l8)), (10, .inr (.inl l10)), (12, .inl l12)]) 4 (.inl (l4 + 1)))) (st' := [.inl (q7.2.2.1 26 0 l12.toNatClampNeg), .inl l2]) (σ' := q7.2) (fun _ => rfl) hz ?_
        refine q_ex_br 1 (c := (q7.2.2.1 26 0 l12.toNatClampNeg) ≤ l2) (pc1 := 205) (pc2 := 121) (L' := (q_s1 (q_L [(0, .inr (.inr (some (24, 0)))), (1, .inl l1), (2, .inl l2), (3, .inl l3), (4, .inl l4), (5, .inl l5), (6, .inr (.inl l6)), (8, .inr (.inl l8)), (10, .inr (.inl l10)), (12, .inl l12)]) 4 (.inl (l4 + 1)))) (st' := []) (σ' := q7.2) (fun _ => rfl) (fun hc => ?_) (fun hc => ?_)
        · rw [if_pos hc] at h
          exact q_ex_ll (M_fold_b205_e hk72 h) ⟨rfl, rfl, rfl, rfl, rfl, rfl, rfl, rfl, rfl, rfl, trivial⟩
        · rw [if_neg hc] at h
          refine q_by h (fun hz h => ?_)
          refine q_ex_gb 8 (pc' := 132) (L' := (q_s1 (q_L [(0, .inr (.inr (some (24, 0)))), (1, .inl l1), (2, .inl l2), (3, .inl l3), (4, .inl l4), (5, .inl l5), (6, .inr (.inl l6)), (8, .inr (.inl l8)), (10, .inr (.inl l10)), (12, .inl l12)]) 4 (.inl (l4 + 1)))) (st' := [.inl (q7.2.2.1 32 0 ((4 * l12) + l2).toNatClampNeg)]) (σ' := q7.2) (fun _ => rfl) hz ?_
          refine q_ex_br 1 (c := (q7.2.2.1 32 0 ((4 * l12) + l2).toNatClampNeg) = 0) (pc1 := 138) (pc2 := 135) (L' := (q_s1 (q_L [(0, .inr (.inr (some (24, 0)))), (1, .inl l1), (2, .inl l2), (3, .inl l3), (4, .inl l4), (5, .inl l5), (6, .inr (.inl l6)), (8, .inr (.inl l8)), (10, .inr (.inl l10)), (12, .inl l12)]) 4 (.inl (l4 + 1)))) (st' := []) (σ' := q7.2) (fun _ => rfl) (fun hc => ?_) (fun hc => ?_)
          · rw [if_pos hc] at h
            refine q_by h (fun hz h => ?_)
            refine q_ex_gb 8 (pc' := 149) (L' := (q_s1 (q_L [(0, .inr (.inr (some (24, 0)))), (1, .inl l1), (2, .inl l2), (3, .inl l3), (4, .inl l4), (5, .inl l5), (6, .inr (.inl l6)), (8, .inr (.inl l8)), (10, .inr (.inl l10)), (12, .inl l12)]) 4 (.inl (l4 + 1)))) (st' := [.inr (.inl (q7.2.2.2.1 33 0 ((4 * l12) + l2).toNatClampNeg))]) (σ' := q7.2) (fun _ => rfl) hz ?_
            refine q_ex_br 7 (c := l5 = 0) (pc1 := 171) (pc2 := 163) (L' := (q_s2 (q_s2 (q_s1 (q_L [(0, .inr (.inr (some (24, 0)))), (1, .inl l1), (2, .inl l2), (3, .inl l3), (4, .inl l4), (5, .inl l5), (6, .inr (.inl l6)), (8, .inr (.inl l8)), (10, .inr (.inl l10)), (12, .inl l12)]) 4 (.inl (l4 + 1))) 13 (.inr (.inl (q7.2.2.2.1 33 0 ((4 * l12) + l2).toNatClampNeg)))) 6 (.inr (.inl (l6 + (q7.2.2.2.1 33 0 ((4 * l12) + l2).toNatClampNeg)))))) (st' := []) (σ' := q7.2) (fun _ => rfl) (fun hc => ?_) (fun hc => ?_)
            · rw [if_pos hc] at h
              exact q_ex_ll (M_fold_b171_e hk72 h) ⟨rfl, rfl, rfl, rfl, rfl, rfl, rfl, rfl, rfl, rfl, trivial⟩
            · rw [if_neg hc] at h
              refine q_ex_br 4 (c := 0 ≤ (lg_cmp (q7.2.2.2.1 33 0 ((4 * l12) + l2).toNatClampNeg) l8)) (pc1 := 176) (pc2 := 171) (L' := (q_s2 (q_s2 (q_s1 (q_L [(0, .inr (.inr (some (24, 0)))), (1, .inl l1), (2, .inl l2), (3, .inl l3), (4, .inl l4), (5, .inl l5), (6, .inr (.inl l6)), (8, .inr (.inl l8)), (10, .inr (.inl l10)), (12, .inl l12)]) 4 (.inl (l4 + 1))) 13 (.inr (.inl (q7.2.2.2.1 33 0 ((4 * l12) + l2).toNatClampNeg)))) 6 (.inr (.inl (l6 + (q7.2.2.2.1 33 0 ((4 * l12) + l2).toNatClampNeg)))))) (st' := []) (σ' := q7.2) (fun _ => rfl) (fun hc => ?_) (fun hc => ?_)
              · rw [if_pos hc] at h
                refine q_ex_go 1 (pc' := 178) (L' := (q_s2 (q_s2 (q_s1 (q_L [(0, .inr (.inr (some (24, 0)))), (1, .inl l1), (2, .inl l2), (3, .inl l3), (4, .inl l4), (5, .inl l5), (6, .inr (.inl l6)), (8, .inr (.inl l8)), (10, .inr (.inl l10)), (12, .inl l12)]) 4 (.inl (l4 + 1))) 13 (.inr (.inl (q7.2.2.2.1 33 0 ((4 * l12) + l2).toNatClampNeg)))) 6 (.inr (.inl (l6 + (q7.2.2.2.1 33 0 ((4 * l12) + l2).toNatClampNeg)))))) (st' := [.inr (.inl l8)]) (σ' := q7.2) (fun _ => rfl) ?_
                exact q_ex_ll (M_fold_b178_e hk72 h) ⟨rfl, rfl, rfl, rfl, rfl, rfl, rfl, rfl, rfl, rfl, trivial⟩
              · rw [if_neg hc] at h
                exact q_ex_ll (M_fold_b171_e hk72 h) ⟨rfl, rfl, rfl, rfl, rfl, rfl, rfl, rfl, rfl, rfl, trivial⟩
          · rw [if_neg hc] at h
            refine q_ex_go 1 (pc' := 205) (L' := (q_s1 (q_L [(0, .inr (.inr (some (24, 0)))), (1, .inl l1), (2, .inl l2), (3, .inl l3), (4, .inl l4), (5, .inl l5), (6, .inr (.inl l6)), (8, .inr (.inl l8)), (10, .inr (.inl l10)), (12, .inl l12)]) 4 (.inl (l4 + 1)))) (st' := []) (σ' := q7.2) (fun _ => rfl) ?_
            exact q_ex_ll (M_fold_b205_e hk72 h) ⟨rfl, rfl, rfl, rfl, rfl, rfl, rfl, rfl, rfl, rfl, trivial⟩
theorem M_fold_L72_e {n : Nat} {r0 : (Int64) × J} (f : Nat) : ∀ {l1 : Int32} {l2 : Int32} {l3 : Int32} {l4 : Int32} {l5 : Int32} {l6 : Int64} {l8 : Int64} {l10 : Int64} {l12 : Int32} {σ : J}, M_fold_L72 n f l1 l2 l3 l4 l5 l6 l8 l10 l12 σ = some r0 → q_ex q_pr n 3 92 72 (q_L [(0, .inr (.inr (some (24, 0)))), (1, .inl l1), (2, .inl l2), (3, .inl l3), (4, .inl l4), (5, .inl l5), (6, .inr (.inl l6)), (8, .inr (.inl l8)), (10, .inr (.inl l10)), (12, .inl l12)]) [] σ (M_fold_r r0) := by
  induction f with
  | zero => intro l1 l2 l3 l4 l5 l6 l8 l10 l12 σ h; cases h
  | succ f ih =>
    intro l1 l2 l3 l4 l5 l6 l8 l10 l12 σ h
    exact M_fold_b72_e (f := f)  (fun h => ih h) h
theorem M_fold_b39_e {n : Nat} {r0 : (Int64) × J} {f : Nat} {l1 : Int32} {l2 : Int32} {l3 : Int32} {s2 : Int32} {s3 : Int32} {σ : J} (h : M_fold_b39 n f l1 l2 l3 s2 s3 σ = some r0) : q_ex q_pr n 3 92 39 (q_L [(0, .inr (.inr (some (24, 0)))), (1, .inl l1), (2, .inl l2), (3, .inl l3)]) [.inl s3, .inl s2, .inr (.inr (some (24, 0))), .inr (.inr (some (24, 0)))] σ (M_fold_r r0) := by
  unfold M_fold_b39 at h
  obtain ⟨q4, hq4, h⟩ := Option.bind_eq_some_iff.mp h
  refine q_ex_ca 1 (k1 := 90) (vs := [.inr (.inr (some (24, 0))), .inl s2, .inl s3]) (pc' := 42) (L' := (q_L [(0, .inr (.inr (some (24, 0)))), (1, .inl l1), (2, .inl l2), (3, .inl l3)])) (rest := [.inr (.inr (some (24, 0)))]) (σ' := σ) (fun _ => rfl) (q_ex_dd (M_first_e hq4) (Nat.le_of_ble_eq_true rfl)) rfl ?_
  refine q_ex_go 1 (pc' := 45) (L' := (q_L [(0, .inr (.inr (some (24, 0)))), (1, .inl l1), (2, .inl l2), (3, .inl l3)])) (st' := []) (σ' := (q_sI q4.2 24 0 0 q4.1)) (fun _ => rfl) ?_
  refine q_nm (G := fun τ => q_ex q_pr n _ 92 45 (q_L [(0, .inr (.inr (some (24, 0)))), (1, .inl l1), (2, .inl l2), (3, .inl l3)]) [] τ _) h (fun σ5 h => ?_)
  refine q_ex_br 3 (c := (σ5.1 24 0 0) ≤ 0) (pc1 := 54) (pc2 := 52) (L' := (q_L [(0, .inr (.inr (some (24, 0)))), (1, .inl l1), (2, .inl l2), (3, .inl l3)])) (st' := []) (σ' := σ5) (fun _ => rfl) (fun hc => ?_) (fun hc => ?_)
  · rw [if_pos hc] at h
    refine q_ex_go 12 (pc' := 72) (L' := (q_s1 (q_s2 (q_s2 (q_s2 (q_s1 (q_s1 (q_L [(0, .inr (.inr (some (24, 0)))), (1, .inl l1), (2, .inl l2), (3, .inl l3)]) 4 (.inl 0)) 5 (.inl 0)) 6 (.inr (.inl 0))) 8 (.inr (.inl 0))) 10 (.inr (.inl 0))) 12 (.inl 0))) (st' := []) (σ' := σ5) (fun _ => rfl) ?_
    exact q_ex_ll (M_fold_L72_e f h) ⟨rfl, rfl, rfl, rfl, rfl, rfl, rfl, rfl, rfl, rfl, trivial⟩
  · rw [if_neg hc] at h
    refine q_ex_go 1 (pc' := 53) (L' := (q_L [(0, .inr (.inr (some (24, 0)))), (1, .inl l1), (2, .inl l2), (3, .inl l3)])) (st' := [.inr (.inl 0)]) (σ' := σ5) (fun _ => rfl) ?_
    cases h
    exact ⟨1, rfl⟩
theorem M_fold_b38_e {n : Nat} {r0 : (Int64) × J} {f : Nat} {l1 : Int32} {l2 : Int32} {l3 : Int32} {s2 : Int32} {σ : J} (h : M_fold_b38 n f l1 l2 l3 s2 σ = some r0) : q_ex q_pr n 3 92 38 (q_L [(0, .inr (.inr (some (24, 0)))), (1, .inl l1), (2, .inl l2), (3, .inl l3)]) [.inl s2, .inr (.inr (some (24, 0))), .inr (.inr (some (24, 0)))] σ (M_fold_r r0) := by
  unfold M_fold_b38 at h
  refine q_ex_go 1 (pc' := 39) (L' := (q_L [(0, .inr (.inr (some (24, 0)))), (1, .inl l1), (2, .inl l2), (3, .inl l3)])) (st' := [.inl 0, .inl s2, .inr (.inr (some (24, 0))), .inr (.inr (some (24, 0)))]) (σ' := σ) (fun _ => rfl) ?_
  exact q_ex_ll (M_fold_b39_e h) ⟨rfl, rfl, rfl, rfl, trivial⟩
theorem M_fold_b0_e {n : Nat} {r0 : (Int64) × J} {f : Nat} {l1 : Int32} {l2 : Int32} {l3 : Int32} {σ : J} (h : M_fold_b0 n f l1 l2 l3 σ = some r0) : q_ex q_pr n 3 92 0 (q_L [(0, .inr (.inr (some (24, 0)))), (1, .inl l1), (2, .inl l2), (3, .inl l3)]) [] σ (M_fold_r r0) := by
  unfold M_fold_b0 at h
  obtain ⟨q1, hq1, h⟩ := Option.bind_eq_some_iff.mp h
  refine q_ex_ca 7 (k1 := 109) (vs := [.inr (.inr (some (24, 0))), .inl l1, .inl 1]) (pc' := 9) (L' := (q_L [(0, .inr (.inr (some (24, 0)))), (1, .inl l1), (2, .inl l2), (3, .inl l3)])) (rest := [.inl l1, .inr (.inr (some (24, 0))), .inr (.inr (some (24, 0)))]) (σ' := σ) (fun _ => rfl) (q_ex_dd (M_ready_e hq1) (Nat.le_of_ble_eq_true rfl)) rfl ?_
  refine q_ex_br 1 (c := q1.1 = 0) (pc1 := 38) (pc2 := 12) (L' := (q_L [(0, .inr (.inr (some (24, 0)))), (1, .inl l1), (2, .inl l2), (3, .inl l3)])) (st' := [.inl l1, .inr (.inr (some (24, 0))), .inr (.inr (some (24, 0)))]) (σ' := q1.2) (fun _ => rfl) (fun hc => ?_) (fun hc => ?_)
  · rw [if_pos hc] at h
    exact q_ex_ll (M_fold_b38_e h) ⟨rfl, rfl, rfl, rfl, trivial⟩
  · rw [if_neg hc] at h
    obtain ⟨q2, hq2, h⟩ := Option.bind_eq_some_iff.mp h
    refine q_ex_ca 4 (k1 := 122) (vs := [.inr (.inl l2.toInt64), .inr (.inl 3)]) (pc' := 20) (L' := (q_L [(0, .inr (.inr (some (24, 0)))), (1, .inl l1), (2, .inl l2), (3, .inl l3)])) (rest := [.inl l1, .inr (.inr (some (24, 0))), .inr (.inr (some (24, 0)))]) (σ' := q1.2) (fun _ => rfl) (q_ex_dd (M_within_e hq2) (Nat.le_of_ble_eq_true rfl)) rfl ?_
    refine q_ex_br 1 (c := q2.1 = 0) (pc1 := 38) (pc2 := 23) (L' := (q_L [(0, .inr (.inr (some (24, 0)))), (1, .inl l1), (2, .inl l2), (3, .inl l3)])) (st' := [.inl l1, .inr (.inr (some (24, 0))), .inr (.inr (some (24, 0)))]) (σ' := q2.2) (fun _ => rfl) (fun hc => ?_) (fun hc => ?_)
    · rw [if_pos hc] at h
      exact q_ex_ll (M_fold_b38_e h) ⟨rfl, rfl, rfl, rfl, trivial⟩
    · rw [if_neg hc] at h
      obtain ⟨q3, hq3, h⟩ := Option.bind_eq_some_iff.mp h
      refine q_ex_ca 4 (k1 := 122) (vs := [.inr (.inl l3.toInt64), .inr (.inl 3)]) (pc' := 31) (L' := (q_L [(0, .inr (.inr (some (24, 0)))), (1, .inl l1), (2, .inl l2), (3, .inl l3)])) (rest := [.inl l1, .inr (.inr (some (24, 0))), .inr (.inr (some (24, 0)))]) (σ' := q2.2) (fun _ => rfl) (q_ex_dd (M_within_e hq3) (Nat.le_of_ble_eq_true rfl)) rfl ?_
      refine q_ex_br 1 (c := q3.1 = 0) (pc1 := 38) (pc2 := 34) (L' := (q_L [(0, .inr (.inr (some (24, 0)))), (1, .inl l1), (2, .inl l2), (3, .inl l3)])) (st' := [.inl l1, .inr (.inr (some (24, 0))), .inr (.inr (some (24, 0)))]) (σ' := q3.2) (fun _ => rfl) (fun hc => ?_) (fun hc => ?_)
      · rw [if_pos hc] at h
        exact q_ex_ll (M_fold_b38_e h) ⟨rfl, rfl, rfl, rfl, trivial⟩
      · rw [if_neg hc] at h
        refine q_ex_go 2 (pc' := 39) (L' := (q_L [(0, .inr (.inr (some (24, 0)))), (1, .inl l1), (2, .inl l2), (3, .inl l3)])) (st' := [.inl 1, .inl l1, .inr (.inr (some (24, 0))), .inr (.inr (some (24, 0)))]) (σ' := q3.2) (fun _ => rfl) ?_
        exact q_ex_ll (M_fold_b39_e h) ⟨rfl, rfl, rfl, rfl, trivial⟩
theorem M_fold_e {n : Nat} {r0 : (Int64) × J} {f : Nat} {x1 : Int32} {x2 : Int32} {x3 : Int32} {σ : J} (h : M_fold n f x1 x2 x3 σ = some r0) : q_ex q_pr n 3 92 0 (q_args 0 [.inr (.inr (some (24, 0))), .inl x1, .inl x2, .inl x3]) [] σ (M_fold_r r0) := q_ex_ll (M_fold_b0_e h) ⟨rfl, rfl, rfl, rfl, trivial⟩
def M_forget_r : (Int32) × J → Res := fun q => (.inl (some (.inl q.1)), q.2)
-- 93: M_forget
def M_forget_b82 (n : Nat) (f : Nat) (l3 : Int32) (σ : J) : Option ((Int32) × J) := some (l3, σ)
def M_forget_b56 (n : Nat) (f : Nat) (l1 : Int32) (l2 : Int32) (s0 : Int32) (σ : J) : Option ((Int32) × J) := if 0 ≤ l2 then if q_in ((3 * l1) + l2) 18 = true then q_bs (q_sA σ 38 0 (upd (σ.2.1 38 0) (((3 * l1) + l2).toNatClampNeg) 0)) fun σ3 => M_forget_b82 n f s0 σ3 else none else if q_in l1 4 = true then q_bs (q_sA σ 35 0 (upd (σ.2.1 35 0) l1.toNatClampNeg 0)) fun σ4 => M_forget_b82 n f s0 σ4 else none
def M_forget_b18 (n : Nat) (f : Nat) (l1 : Int32) (l2 : Int32) (s2 : Int32) (s3 : Int32) (σ : J) : Option ((Int32) × J) := (M_first n f s2 s3 σ).bind fun q1 => q_bs (q_sI q1.2 24 0 0 q1.1) fun σ2 => if (σ2.1 24 0 0) ≤ 0 then if 0 ≤ l2 then if q_in ((3 * l1) + l2) 18 = true then M_forget_b56 n f l1 l2 (σ2.2.1 38 0 ((3 * l1) + l2).toNatClampNeg) σ2 else none else if q_in l1 4 = true then M_forget_b56 n f l1 l2 (σ2.2.1 35 0 l1.toNatClampNeg) σ2 else none else some (0, σ2)
def M_forget_b17 (n : Nat) (f : Nat) (l1 : Int32) (l2 : Int32) (s2 : Int32) (σ : J) : Option ((Int32) × J) := M_forget_b18 n f l1 l2 s2 0 σ
def M_forget_b0 (n : Nat) (f : Nat) (l1 : Int32) (l2 : Int32) (σ : J) : Option ((Int32) × J) := if l2 < (-1) then M_forget_b17 n f l1 l2 l1 σ else if 3 ≤ l2 then M_forget_b17 n f l1 l2 l1 σ else M_forget_b18 n f l1 l2 l1 1 σ
def M_forget (n : Nat) (f : Nat) (x1 : Int32) (x2 : Int32) (σ : J) : Option ((Int32) × J) := M_forget_b0 n f x1 x2 σ
theorem M_forget_b82_e {n : Nat} {r0 : (Int32) × J} {f : Nat} {l3 : Int32} {σ : J} (h : M_forget_b82 n f l3 σ = some r0) : q_ex q_pr n 2 93 82 (q_L [(3, .inl l3)]) [] σ (M_forget_r r0) := by
  unfold M_forget_b82 at h
  refine q_ex_go 1 (pc' := 83) (L' := (q_L [(3, .inl l3)])) (st' := [.inl l3]) (σ' := σ) (fun _ => rfl) ?_
  cases h
  exact ⟨1, rfl⟩
theorem M_forget_b56_e {n : Nat} {r0 : (Int32) × J} {f : Nat} {l1 : Int32} {l2 : Int32} {s0 : Int32} {σ : J} (h : M_forget_b56 n f l1 l2 s0 σ = some r0) : q_ex q_pr n 2 93 56 (q_L [(0, .inr (.inr (some (24, 0)))), (1, .inl l1), (2, .inl l2)]) [.inl s0] σ (M_forget_r r0) := by
  unfold M_forget_b56 at h
  refine q_ex_br 3 (c := 0 ≤ l2) (pc1 := 71) (pc2 := 61) (L' := (q_s1 (q_L [(0, .inr (.inr (some (24, 0)))), (1, .inl l1), (2, .inl l2)]) 3 (.inl s0))) (st' := []) (σ' := σ) (fun _ => rfl) (fun hc => ?_) (fun hc => ?_)
  · rw [if_pos hc] at h
    refine q_by h (fun hz h => ?_)
    refine q_ex_gb 9 (pc' := 82) (L' := (q_s1 (q_L [(0, .inr (.inr (some (24, 0)))), (1, .inl l1), (2, .inl l2)]) 3 (.inl s0))) (st' := []) (σ' := (q_sA σ 38 0 (upd (σ.2.1 38 0) (((3 * l1) + l2).toNatClampNeg) 0))) (fun _ => rfl) hz ?_
    refine q_nm (G := fun τ => q_ex q_pr n _ 93 82 (q_s1 (q_L [(0, .inr (.inr (some (24, 0)))), (1, .inl l1), (2, .inl l2)]) 3 (.inl s0)) [] τ _) h (fun σ3 h => ?_)
    exact q_ex_ll (M_forget_b82_e h) ⟨rfl, trivial⟩
  · rw [if_neg hc] at h
    refine q_by h (fun hz h => ?_)
    refine q_ex_gb 5 (pc' := 68) (L' := (q_s1 (q_L [(0, .inr (.inr (some (24, 0)))), (1, .inl l1), (2, .inl l2)]) 3 (.inl s0))) (st' := []) (σ' := (q_sA σ 35 0 (upd (σ.2.1 35 0) l1.toNatClampNeg 0))) (fun _ => rfl) hz ?_
    refine q_nm (G := fun τ => q_ex q_pr n _ 93 68 (q_s1 (q_L [(0, .inr (.inr (some (24, 0)))), (1, .inl l1), (2, .inl l2)]) 3 (.inl s0)) [] τ _) h (fun σ4 h => ?_)
    refine q_ex_go 1 (pc' := 82) (L' := (q_s1 (q_L [(0, .inr (.inr (some (24, 0)))), (1, .inl l1), (2, .inl l2)]) 3 (.inl s0))) (st' := []) (σ' := σ4) (fun _ => rfl) ?_
    exact q_ex_ll (M_forget_b82_e h) ⟨rfl, trivial⟩
theorem M_forget_b18_e {n : Nat} {r0 : (Int32) × J} {f : Nat} {l1 : Int32} {l2 : Int32} {s2 : Int32} {s3 : Int32} {σ : J} (h : M_forget_b18 n f l1 l2 s2 s3 σ = some r0) : q_ex q_pr n 2 93 18 (q_L [(0, .inr (.inr (some (24, 0)))), (1, .inl l1), (2, .inl l2)]) [.inl s3, .inl s2, .inr (.inr (some (24, 0))), .inr (.inr (some (24, 0)))] σ (M_forget_r r0) := by
  unfold M_forget_b18 at h
  obtain ⟨q1, hq1, h⟩ := Option.bind_eq_some_iff.mp h
  refine q_ex_ca 1 (k1 := 90) (vs := [.inr (.inr (some (24, 0))), .inl s2, .inl s3]) (pc' := 21) (L' := (q_L [(0, .inr (.inr (some (24, 0)))), (1, .inl l1), (2, .inl l2)])) (rest := [.inr (.inr (some (24, 0)))]) (σ' := σ) (fun _ => rfl) (q_ex_dd (M_first_e hq1) (Nat.le_of_ble_eq_true rfl)) rfl ?_
  refine q_ex_go 1 (pc' := 24) (L' := (q_L [(0, .inr (.inr (some (24, 0)))), (1, .inl l1), (2, .inl l2)])) (st' := []) (σ' := (q_sI q1.2 24 0 0 q1.1)) (fun _ => rfl) ?_
  refine q_nm (G := fun τ => q_ex q_pr n _ 93 24 (q_L [(0, .inr (.inr (some (24, 0)))), (1, .inl l1), (2, .inl l2)]) [] τ _) h (fun σ2 h => ?_)
  refine q_ex_br 3 (c := (σ2.1 24 0 0) ≤ 0) (pc1 := 33) (pc2 := 31) (L' := (q_L [(0, .inr (.inr (some (24, 0)))), (1, .inl l1), (2, .inl l2)])) (st' := []) (σ' := σ2) (fun _ => rfl) (fun hc => ?_) (fun hc => ?_)
  · rw [if_pos hc] at h
    refine q_ex_br 2 (c := 0 ≤ l2) (pc1 := 46) (pc2 := 37) (L' := (q_L [(0, .inr (.inr (some (24, 0)))), (1, .inl l1), (2, .inl l2)])) (st' := []) (σ' := σ2) (fun _ => rfl) (fun hc => ?_) (fun hc => ?_)
    · rw [if_pos hc] at h
      refine q_by h (fun hz h => ?_)
      refine q_ex_gb 8 (pc' := 56) (L' := (q_L [(0, .inr (.inr (some (24, 0)))), (1, .inl l1), (2, .inl l2)])) (st' := [.inl (σ2.2.1 38 0 ((3 * l1) + l2).toNatClampNeg)]) (σ' := σ2) (fun _ => rfl) hz ?_
      exact q_ex_ll (M_forget_b56_e h) ⟨rfl, rfl, rfl, trivial⟩
    · rw [if_neg hc] at h
      refine q_by h (fun hz h => ?_)
      refine q_ex_gb 4 (pc' := 43) (L' := (q_L [(0, .inr (.inr (some (24, 0)))), (1, .inl l1), (2, .inl l2)])) (st' := [.inl (σ2.2.1 35 0 l1.toNatClampNeg)]) (σ' := σ2) (fun _ => rfl) hz ?_
      refine q_ex_go 1 (pc' := 56) (L' := (q_L [(0, .inr (.inr (some (24, 0)))), (1, .inl l1), (2, .inl l2)])) (st' := [.inl (σ2.2.1 35 0 l1.toNatClampNeg)]) (σ' := σ2) (fun _ => rfl) ?_
      exact q_ex_ll (M_forget_b56_e h) ⟨rfl, rfl, rfl, trivial⟩
  · rw [if_neg hc] at h
    refine q_ex_go 1 (pc' := 32) (L' := (q_L [(0, .inr (.inr (some (24, 0)))), (1, .inl l1), (2, .inl l2)])) (st' := [.inl 0]) (σ' := σ2) (fun _ => rfl) ?_
    cases h
    exact ⟨1, rfl⟩
theorem M_forget_b17_e {n : Nat} {r0 : (Int32) × J} {f : Nat} {l1 : Int32} {l2 : Int32} {s2 : Int32} {σ : J} (h : M_forget_b17 n f l1 l2 s2 σ = some r0) : q_ex q_pr n 2 93 17 (q_L [(0, .inr (.inr (some (24, 0)))), (1, .inl l1), (2, .inl l2)]) [.inl s2, .inr (.inr (some (24, 0))), .inr (.inr (some (24, 0)))] σ (M_forget_r r0) := by
  unfold M_forget_b17 at h
  refine q_ex_go 1 (pc' := 18) (L' := (q_L [(0, .inr (.inr (some (24, 0)))), (1, .inl l1), (2, .inl l2)])) (st' := [.inl 0, .inl s2, .inr (.inr (some (24, 0))), .inr (.inr (some (24, 0)))]) (σ' := σ) (fun _ => rfl) ?_
  exact q_ex_ll (M_forget_b18_e h) ⟨rfl, rfl, rfl, trivial⟩
theorem M_forget_b0_e {n : Nat} {r0 : (Int32) × J} {f : Nat} {l1 : Int32} {l2 : Int32} {σ : J} (h : M_forget_b0 n f l1 l2 σ = some r0) : q_ex q_pr n 2 93 0 (q_L [(0, .inr (.inr (some (24, 0)))), (1, .inl l1), (2, .inl l2)]) [] σ (M_forget_r r0) := by
  unfold M_forget_b0 at h
  refine q_ex_br 6 (c := l2 < (-1)) (pc1 := 17) (pc2 := 8) (L' := (q_L [(0, .inr (.inr (some (24, 0)))), (1, .inl l1), (2, .inl l2)])) (st' := [.inl l1, .inr (.inr (some (24, 0))), .inr (.inr (some (24, 0)))]) (σ' := σ) (fun _ => rfl) (fun hc => ?_) (fun hc => ?_)
  · rw [if_pos hc] at h
    exact q_ex_ll (M_forget_b17_e h) ⟨rfl, rfl, rfl, trivial⟩
  · rw [if_neg hc] at h
    refine q_ex_br 3 (c := 3 ≤ l2) (pc1 := 17) (pc2 := 13) (L' := (q_L [(0, .inr (.inr (some (24, 0)))), (1, .inl l1), (2, .inl l2)])) (st' := [.inl l1, .inr (.inr (some (24, 0))), .inr (.inr (some (24, 0)))]) (σ' := σ) (fun _ => rfl) (fun hc => ?_) (fun hc => ?_)
    · rw [if_pos hc] at h
      exact q_ex_ll (M_forget_b17_e h) ⟨rfl, rfl, rfl, trivial⟩
    · rw [if_neg hc] at h
      refine q_ex_go 2 (pc' := 18) (L' := (q_L [(0, .inr (.inr (some (24, 0)))), (1, .inl l1), (2, .inl l2)])) (st' := [.inl 1, .inl l1, .inr (.inr (some (24, 0))), .inr (.inr (some (24, 0)))]) (σ' := σ) (fun _ => rfl) ?_
      exact q_ex_ll (M_forget_b18_e h) ⟨rfl, rfl, rfl, trivial⟩
theorem M_forget_e {n : Nat} {r0 : (Int32) × J} {f : Nat} {x1 : Int32} {x2 : Int32} {σ : J} (h : M_forget n f x1 x2 σ = some r0) : q_ex q_pr n 2 93 0 (q_args 0 [.inr (.inr (some (24, 0))), .inl x1, .inl x2]) [] σ (M_forget_r r0) := q_ex_ll (M_forget_b0_e h) ⟨rfl, rfl, rfl, trivial⟩
def M_form_r : (Int32) × J → Res := fun q => (.inl (some (.inl q.1)), q.2)
-- 94: M_form
def M_form_b146 (n : Nat) (f : Nat) (l1 : Int32) (l2 : Int32) (l3 : Int32) (l4 : Int64) (l6 : Int64) (s1 : Int32) (σ : J) : Option ((Int32) × J) := q_bs (q_sI σ 24 0 0 s1) fun σ8 => if (σ8.1 24 0 0) ≤ 0 then if q_in ((3 * l1) + l2) 18 = true then if q_in ((4 * ((3 * l1) + l2)) + (σ8.2.1 38 0 ((3 * l1) + l2).toNatClampNeg)) 72 = true then q_bs (q_sA σ8 39 0 (upd (σ8.2.1 39 0) (((4 * ((3 * l1) + l2)) + (σ8.2.1 38 0 ((3 * l1) + l2).toNatClampNeg)).toNatClampNeg) l3)) fun σ9 => if q_in ((4 * ((3 * l1) + l2)) + (σ8.2.1 38 0 ((3 * l1) + l2).toNatClampNeg)) 72 = true then q_bs (q_sL σ9 40 0 (vp_updL (σ9.2.2.1 40 0) (((4 * ((3 * l1) + l2)) + (σ8.2.1 38 0 ((3 * l1) + l2).toNatClampNeg)).toNatClampNeg) l4)) fun σ10 => if q_in ((4 * ((3 * l1) + l2)) + (σ8.2.1 38 0 ((3 * l1) + l2).toNatClampNeg)) 72 = true then q_bs (q_sL σ10 41 0 (vp_updL (σ10.2.2.1 41 0) (((4 * ((3 * l1) + l2)) + (σ8.2.1 38 0 ((3 * l1) + l2).toNatClampNeg)).toNatClampNeg) l6)) fun σ11 => if q_in ((3 * l1) + l2) 18 = true then if q_in ((3 * l1) + l2) 18 = true then q_bs (q_sA σ11 38 0 (upd (σ11.2.1 38 0) (((3 * l1) + l2).toNatClampNeg) ((σ11.2.1 38 0 ((3 * l1) + l2).toNatClampNeg) + 1))) fun σ12 => if q_in ((3 * l1) + l2) 18 = true then some (σ12.2.1 38 0 ((3 * l1) + l2).toNatClampNeg, σ12) else none else none else none else none else none else none else none else some (0, σ8)
def M_form_b142 (n : Nat) (f : Nat) (l1 : Int32) (l2 : Int32) (l3 : Int32) (l4 : Int64) (l6 : Int64) (σ : J) : Option ((Int32) × J) := M_form_b146 n f l1 l2 l3 l4 l6 (σ.1 24 0 0) σ
def M_form_b103 (n : Nat) (f : Nat) (l1 : Int32) (l2 : Int32) (l3 : Int32) (l4 : Int64) (l6 : Int64) (s0 : Int32) (σ : J) : Option ((Int32) × J) := (M_first n f l1 s0 σ).bind fun q6 => q_bs (q_sI q6.2 24 0 0 q6.1) fun σ7 => if (σ7.1 24 0 0) = 0 then if q_in ((3 * l1) + l2) 18 = true then if (σ7.2.1 38 0 ((3 * l1) + l2).toNatClampNeg) = 4 then M_form_b146 n f l1 l2 l3 l4 l6 4 σ7 else M_form_b142 n f l1 l2 l3 l4 l6 σ7 else none else M_form_b142 n f l1 l2 l3 l4 l6 σ7
def M_form_b102 (n : Nat) (f : Nat) (l1 : Int32) (l2 : Int32) (l3 : Int32) (l4 : Int64) (l6 : Int64) (σ : J) : Option ((Int32) × J) := M_form_b103 n f l1 l2 l3 l4 l6 0 σ
def M_form_b98 (n : Nat) (f : Nat) (l1 : Int32) (l2 : Int32) (l3 : Int32) (l4 : Int64) (l6 : Int64) (σ : J) : Option ((Int32) × J) := M_form_b103 n f l1 l2 l3 l4 l6 1 σ
def M_form_b83 (n : Nat) (f : Nat) (l1 : Int32) (l2 : Int32) (l3 : Int32) (l4 : Int64) (l6 : Int64) (σ : J) : Option ((Int32) × J) := if l3 = 8 then (M_within n l4 1 σ).bind fun q5 => if q5.1 = 0 then M_form_b102 n f l1 l2 l3 l4 l6 q5.2 else M_form_b98 n f l1 l2 l3 l4 l6 q5.2 else M_form_b98 n f l1 l2 l3 l4 l6 σ
def M_form_b66 (n : Nat) (f : Nat) (l1 : Int32) (l2 : Int32) (l3 : Int32) (l4 : Int64) (l6 : Int64) (σ : J) : Option ((Int32) × J) := if l3 = 7 then (M_within n l4 3 σ).bind fun q4 => if q4.1 = 0 then M_form_b102 n f l1 l2 l3 l4 l6 q4.2 else M_form_b83 n f l1 l2 l3 l4 l6 q4.2 else M_form_b83 n f l1 l2 l3 l4 l6 σ
def M_form_b26 (n : Nat) (f : Nat) (l1 : Int32) (l2 : Int32) (l3 : Int32) (l4 : Int64) (l6 : Int64) (s0 : Int32) (σ : J) : Option ((Int32) × J) := (M_within n l2.toInt64 2 σ).bind fun q1 => if q1.1 = 0 then M_form_b102 n f l1 l2 l3 l4 l6 q1.2 else (M_within n l3.toInt64 9 q1.2).bind fun q2 => if q2.1 = 0 then M_form_b102 n f l1 l2 l3 l4 l6 q2.2 else if s0 = 0 then M_form_b66 n f l1 l2 l3 l4 l6 q2.2 else (M_within n l4 2 q2.2).bind fun q3 => if q3.1 = 0 then M_form_b102 n f l1 l2 l3 l4 l6 q3.2 else M_form_b66 n f l1 l2 l3 l4 l6 q3.2
def M_form_b21 (n : Nat) (f : Nat) (l1 : Int32) (l2 : Int32) (l3 : Int32) (l4 : Int64) (l6 : Int64) (σ : J) : Option ((Int32) × J) := M_form_b26 n f l1 l2 l3 l4 l6 1 σ
def M_form_b0 (n : Nat) (f : Nat) (l1 : Int32) (l2 : Int32) (l3 : Int32) (l4 : Int64) (l6 : Int64) (σ : J) : Option ((Int32) × J) := if l3 = 1 then M_form_b21 n f l1 l2 l3 l4 l6 σ else if l3 = 2 then M_form_b21 n f l1 l2 l3 l4 l6 σ else if l3 = 3 then M_form_b21 n f l1 l2 l3 l4 l6 σ else if l3 = 9 then M_form_b21 n f l1 l2 l3 l4 l6 σ else M_form_b26 n f l1 l2 l3 l4 l6 0 σ
def M_form (n : Nat) (f : Nat) (x1 : Int32) (x2 : Int32) (x3 : Int32) (x4 : Int64) (x6 : Int64) (σ : J) : Option ((Int32) × J) := M_form_b0 n f x1 x2 x3 x4 x6 σ
theorem M_form_b146_e {n : Nat} {r0 : (Int32) × J} {f : Nat} {l1 : Int32} {l2 : Int32} {l3 : Int32} {l4 : Int64} {l6 : Int64} {s1 : Int32} {σ : J} (h : M_form_b146 n f l1 l2 l3 l4 l6 s1 σ = some r0) : q_ex q_pr n 2 94 146 (q_L [(0, .inr (.inr (some (24, 0)))), (1, .inl l1), (2, .inl l2), (3, .inl l3), (4, .inr (.inl l4)), (6, .inr (.inl l6))]) [.inl s1, .inr (.inr (some (24, 0)))] σ (M_form_r r0) := by
  unfold M_form_b146 at h
  refine q_ex_go 1 (pc' := 149) (L' := (q_L [(0, .inr (.inr (some (24, 0)))), (1, .inl l1), (2, .inl l2), (3, .inl l3), (4, .inr (.inl l4)), (6, .inr (.inl l6))])) (st' := []) (σ' := (q_sI σ 24 0 0 s1)) (fun _ => rfl) ?_
  refine q_nm (G := fun τ => q_ex q_pr n _ 94 149 (q_L [(0, .inr (.inr (some (24, 0)))), (1, .inl l1), (2, .inl l2), (3, .inl l3), (4, .inr (.inl l4)), (6, .inr (.inl l6))]) [] τ _) h (fun σ8 h => ?_)
  refine q_ex_br 3 (c := (σ8.1 24 0 0) ≤ 0) (pc1 := 158) (pc2 := 156) (L' := (q_L [(0, .inr (.inr (some (24, 0)))), (1, .inl l1), (2, .inl l2), (3, .inl l3), (4, .inr (.inl l4)), (6, .inr (.inl l6))])) (st' := []) (σ' := σ8) (fun _ => rfl) (fun hc => ?_) (fun hc => ?_)
  · rw [if_pos hc] at h
    refine q_by h (fun hz h => ?_)
    refine q_ex_gb 13 (pc' := 176) (L' := (q_s1 (q_L [(0, .inr (.inr (some (24, 0)))), (1, .inl l1), (2, .inl l2), (3, .inl l3), (4, .inr (.inl l4)), (6, .inr (.inl l6))]) 10 (.inl ((3 * l1) + l2)))) (st' := [.inl (σ8.2.1 38 0 ((3 * l1) + l2).toNatClampNeg), .inl (4 * ((3 * l1) + l2))]) (σ' := σ8) (fun _ => rfl) hz ?_
    refine q_by h (fun hz h => ?_)
    refine q_ex_gb 7 (pc' := 187) (L' := (q_s1 (q_s1 (q_L [(0, .inr (.inr (some (24, 0)))), (1, .inl l1), (2, .inl l2), (3, .inl l3), (4, .inr (.inl l4)), (6, .inr (.inl l6))]) 10 (.inl ((3 * l1) + l2))) 11 (.inl ((4 * ((3 * l1) + l2)) + (σ8.2.1 38 0 ((3 * l1) + l2).toNatClampNeg))))) (st' := []) (σ' := (q_sA σ8 39 0 (upd (σ8.2.1 39 0) (((4 * ((3 * l1) + l2)) + (σ8.2.1 38 0 ((3 * l1) + l2).toNatClampNeg)).toNatClampNeg) l3))) (fun _ => rfl) hz ?_
    refine q_nm (G := fun τ => q_ex q_pr n _ 94 187 (q_s1 (q_s1 (q_L [(0, .inr (.inr (some (24, 0)))), (1, .inl l1), (2, .inl l2), (3, .inl l3), (4, .inr (.inl l4)), (6, .inr (.inl l6))]) 10 (.inl ((3 * l1) + l2))) 11 (.inl ((4 * ((3 * l1) + l2)) + (σ8.2.1 38 0 ((3 * l1) + l2).toNatClampNeg)))) [] τ _) h (fun σ9 h => ?_)
    refine q_by h (fun hz h => ?_)
    refine q_ex_gb 5 (pc' := 196) (L' := (q_s1 (q_s1 (q_L [(0, .inr (.inr (some (24, 0)))), (1, .inl l1), (2, .inl l2), (3, .inl l3), (4, .inr (.inl l4)), (6, .inr (.inl l6))]) 10 (.inl ((3 * l1) + l2))) 11 (.inl ((4 * ((3 * l1) + l2)) + (σ8.2.1 38 0 ((3 * l1) + l2).toNatClampNeg))))) (st' := []) (σ' := (q_sL σ9 40 0 (vp_updL (σ9.2.2.1 40 0) (((4 * ((3 * l1) + l2)) + (σ8.2.1 38 0 ((3 * l1) + l2).toNatClampNeg)).toNatClampNeg) l4))) (fun _ => rfl) hz ?_
    refine q_nm (G := fun τ => q_ex q_pr n _ 94 196 (q_s1 (q_s1 (q_L [(0, .inr (.inr (some (24, 0)))), (1, .inl l1), (2, .inl l2), (3, .inl l3), (4, .inr (.inl l4)), (6, .inr (.inl l6))]) 10 (.inl ((3 * l1) + l2))) 11 (.inl ((4 * ((3 * l1) + l2)) + (σ8.2.1 38 0 ((3 * l1) + l2).toNatClampNeg)))) [] τ _) h (fun σ10 h => ?_)
    refine q_by h (fun hz h => ?_)
    refine q_ex_gb 5 (pc' := 205) (L' := (q_s1 (q_s1 (q_L [(0, .inr (.inr (some (24, 0)))), (1, .inl l1), (2, .inl l2), (3, .inl l3), (4, .inr (.inl l4)), (6, .inr (.inl l6))]) 10 (.inl ((3 * l1) + l2))) 11 (.inl ((4 * ((3 * l1) + l2)) + (σ8.2.1 38 0 ((3 * l1) + l2).toNatClampNeg))))) (st' := []) (σ' := (q_sL σ10 41 0 (vp_updL (σ10.2.2.1 41 0) (((4 * ((3 * l1) + l2)) + (σ8.2.1 38 0 ((3 * l1) + l2).toNatClampNeg)).toNatClampNeg) l6))) (fun _ => rfl) hz ?_
    refine q_nm (G := fun τ => q_ex q_pr n _ 94 205 (q_s1 (q_s1 (q_L [(0, .inr (.inr (some (24, 0)))), (1, .inl l1), (2, .inl l2), (3, .inl l3), (4, .inr (.inl l4)), (6, .inr (.inl l6))]) 10 (.inl ((3 * l1) + l2))) 11 (.inl ((4 * ((3 * l1) + l2)) + (σ8.2.1 38 0 ((3 * l1) + l2).toNatClampNeg)))) [] τ _) h (fun σ11 h => ?_)
    refine q_by h (fun hz h => ?_)
    refine q_ex_gb 5 (pc' := 213) (L' := (q_s1 (q_s1 (q_L [(0, .inr (.inr (some (24, 0)))), (1, .inl l1), (2, .inl l2), (3, .inl l3), (4, .inr (.inl l4)), (6, .inr (.inl l6))]) 10 (.inl ((3 * l1) + l2))) 11 (.inl ((4 * ((3 * l1) + l2)) + (σ8.2.1 38 0 ((3 * l1) + l2).toNatClampNeg))))) (st' := [.inl (σ11.2.1 38 0 ((3 * l1) + l2).toNatClampNeg), .inl ((3 * l1) + l2), .inr (.inr (some (38, 0)))]) (σ' := σ11) (fun _ => rfl) hz ?_
    refine q_by h (fun hz h => ?_)
    refine q_ex_gb 3 (pc' := 216) (L' := (q_s1 (q_s1 (q_L [(0, .inr (.inr (some (24, 0)))), (1, .inl l1), (2, .inl l2), (3, .inl l3), (4, .inr (.inl l4)), (6, .inr (.inl l6))]) 10 (.inl ((3 * l1) + l2))) 11 (.inl ((4 * ((3 * l1) + l2)) + (σ8.2.1 38 0 ((3 * l1) + l2).toNatClampNeg))))) (st' := []) (σ' := (q_sA σ11 38 0 (upd (σ11.2.1 38 0) (((3 * l1) + l2).toNatClampNeg) ((σ11.2.1 38 0 ((3 * l1) + l2).toNatClampNeg) + 1)))) (fun _ => rfl) hz ?_
    refine q_nm (G := fun τ => q_ex q_pr n _ 94 216 (q_s1 (q_s1 (q_L [(0, .inr (.inr (some (24, 0)))), (1, .inl l1), (2, .inl l2), (3, .inl l3), (4, .inr (.inl l4)), (6, .inr (.inl l6))]) 10 (.inl ((3 * l1) + l2))) 11 (.inl ((4 * ((3 * l1) + l2)) + (σ8.2.1 38 0 ((3 * l1) + l2).toNatClampNeg)))) [] τ _) h (fun σ12 h => ?_)
    refine q_by h (fun hz h => ?_)
    refine q_ex_gb 4 (pc' := 223) (L' := (q_s1 (q_s1 (q_L [(0, .inr (.inr (some (24, 0)))), (1, .inl l1), (2, .inl l2), (3, .inl l3), (4, .inr (.inl l4)), (6, .inr (.inl l6))]) 10 (.inl ((3 * l1) + l2))) 11 (.inl ((4 * ((3 * l1) + l2)) + (σ8.2.1 38 0 ((3 * l1) + l2).toNatClampNeg))))) (st' := [.inl (σ12.2.1 38 0 ((3 * l1) + l2).toNatClampNeg)]) (σ' := σ12) (fun _ => rfl) hz ?_
    cases h
    exact ⟨1, rfl⟩
  · rw [if_neg hc] at h
    refine q_ex_go 1 (pc' := 157) (L' := (q_L [(0, .inr (.inr (some (24, 0)))), (1, .inl l1), (2, .inl l2), (3, .inl l3), (4, .inr (.inl l4)), (6, .inr (.inl l6))])) (st' := [.inl 0]) (σ' := σ8) (fun _ => rfl) ?_
    cases h
    exact ⟨1, rfl⟩
theorem M_form_b142_e {n : Nat} {r0 : (Int32) × J} {f : Nat} {l1 : Int32} {l2 : Int32} {l3 : Int32} {l4 : Int64} {l6 : Int64} {σ : J} (h : M_form_b142 n f l1 l2 l3 l4 l6 σ = some r0) : q_ex q_pr n 2 94 142 (q_L [(0, .inr (.inr (some (24, 0)))), (1, .inl l1), (2, .inl l2), (3, .inl l3), (4, .inr (.inl l4)), (6, .inr (.inl l6))]) [.inr (.inr (some (24, 0)))] σ (M_form_r r0) := by
  unfold M_form_b142 at h
  refine q_ex_go 2 (pc' := 146) (L' := (q_L [(0, .inr (.inr (some (24, 0)))), (1, .inl l1), (2, .inl l2), (3, .inl l3), (4, .inr (.inl l4)), (6, .inr (.inl l6))])) (st' := [.inl (σ.1 24 0 0), .inr (.inr (some (24, 0)))]) (σ' := σ) (fun _ => rfl) ?_
  exact q_ex_ll (M_form_b146_e h) ⟨rfl, rfl, rfl, rfl, rfl, rfl, trivial⟩
theorem M_form_b103_e {n : Nat} {r0 : (Int32) × J} {f : Nat} {l1 : Int32} {l2 : Int32} {l3 : Int32} {l4 : Int64} {l6 : Int64} {s0 : Int32} {σ : J} (h : M_form_b103 n f l1 l2 l3 l4 l6 s0 σ = some r0) : q_ex q_pr n 2 94 103 (q_L [(0, .inr (.inr (some (24, 0)))), (1, .inl l1), (2, .inl l2), (3, .inl l3), (4, .inr (.inl l4)), (6, .inr (.inl l6))]) [.inl s0] σ (M_form_r r0) := by
  unfold M_form_b103 at h
  obtain ⟨q6, hq6, h⟩ := Option.bind_eq_some_iff.mp h
  refine q_ex_ca 6 (k1 := 90) (vs := [.inr (.inr (some (24, 0))), .inl l1, .inl s0]) (pc' := 113) (L' := (q_s1 (q_L [(0, .inr (.inr (some (24, 0)))), (1, .inl l1), (2, .inl l2), (3, .inl l3), (4, .inr (.inl l4)), (6, .inr (.inl l6))]) 9 (.inl s0))) (rest := [.inr (.inr (some (24, 0)))]) (σ' := σ) (fun _ => rfl) (q_ex_dd (M_first_e hq6) (Nat.le_of_ble_eq_true rfl)) rfl ?_
  refine q_ex_go 1 (pc' := 116) (L' := (q_s1 (q_L [(0, .inr (.inr (some (24, 0)))), (1, .inl l1), (2, .inl l2), (3, .inl l3), (4, .inr (.inl l4)), (6, .inr (.inl l6))]) 9 (.inl s0))) (st' := []) (σ' := (q_sI q6.2 24 0 0 q6.1)) (fun _ => rfl) ?_
  refine q_nm (G := fun τ => q_ex q_pr n _ 94 116 (q_s1 (q_L [(0, .inr (.inr (some (24, 0)))), (1, .inl l1), (2, .inl l2), (3, .inl l3), (4, .inr (.inl l4)), (6, .inr (.inl l6))]) 9 (.inl s0)) [] τ _) h (fun σ7 h => ?_)
  refine q_ex_br 4 (c := (σ7.1 24 0 0) = 0) (pc1 := 124) (pc2 := 142) (L' := (q_s1 (q_L [(0, .inr (.inr (some (24, 0)))), (1, .inl l1), (2, .inl l2), (3, .inl l3), (4, .inr (.inl l4)), (6, .inr (.inl l6))]) 9 (.inl s0))) (st' := [.inr (.inr (some (24, 0)))]) (σ' := σ7) (fun _ => rfl) (fun hc => ?_) (fun hc => ?_)
  · rw [if_pos hc] at h
    refine q_by h (fun hz h => ?_)
    refine q_ex_gb 8 (pc' := 134) (L' := (q_s1 (q_L [(0, .inr (.inr (some (24, 0)))), (1, .inl l1), (2, .inl l2), (3, .inl l3), (4, .inr (.inl l4)), (6, .inr (.inl l6))]) 9 (.inl s0))) (st' := [.inl (σ7.2.1 38 0 ((3 * l1) + l2).toNatClampNeg), .inr (.inr (some (24, 0)))]) (σ' := σ7) (fun _ => rfl) hz ?_
    refine q_ex_br 2 (c := (σ7.2.1 38 0 ((3 * l1) + l2).toNatClampNeg) = 4) (pc1 := 138) (pc2 := 142) (L' := (q_s1 (q_L [(0, .inr (.inr (some (24, 0)))), (1, .inl l1), (2, .inl l2), (3, .inl l3), (4, .inr (.inl l4)), (6, .inr (.inl l6))]) 9 (.inl s0))) (st' := [.inr (.inr (some (24, 0)))]) (σ' := σ7) (fun _ => rfl) (fun hc => ?_) (fun hc => ?_)
    · rw [if_pos hc] at h
      refine q_ex_go 2 (pc' := 146) (L' := (q_s1 (q_L [(0, .inr (.inr (some (24, 0)))), (1, .inl l1), (2, .inl l2), (3, .inl l3), (4, .inr (.inl l4)), (6, .inr (.inl l6))]) 9 (.inl s0))) (st' := [.inl 4, .inr (.inr (some (24, 0)))]) (σ' := σ7) (fun _ => rfl) ?_
      exact q_ex_ll (M_form_b146_e h) ⟨rfl, rfl, rfl, rfl, rfl, rfl, trivial⟩
    · rw [if_neg hc] at h
      exact q_ex_ll (M_form_b142_e h) ⟨rfl, rfl, rfl, rfl, rfl, rfl, trivial⟩
  · rw [if_neg hc] at h
    exact q_ex_ll (M_form_b142_e h) ⟨rfl, rfl, rfl, rfl, rfl, rfl, trivial⟩
theorem M_form_b102_e {n : Nat} {r0 : (Int32) × J} {f : Nat} {l1 : Int32} {l2 : Int32} {l3 : Int32} {l4 : Int64} {l6 : Int64} {σ : J} (h : M_form_b102 n f l1 l2 l3 l4 l6 σ = some r0) : q_ex q_pr n 2 94 102 (q_L [(0, .inr (.inr (some (24, 0)))), (1, .inl l1), (2, .inl l2), (3, .inl l3), (4, .inr (.inl l4)), (6, .inr (.inl l6))]) [] σ (M_form_r r0) := by
  unfold M_form_b102 at h
  refine q_ex_go 1 (pc' := 103) (L' := (q_L [(0, .inr (.inr (some (24, 0)))), (1, .inl l1), (2, .inl l2), (3, .inl l3), (4, .inr (.inl l4)), (6, .inr (.inl l6))])) (st' := [.inl 0]) (σ' := σ) (fun _ => rfl) ?_
  exact q_ex_ll (M_form_b103_e h) ⟨rfl, rfl, rfl, rfl, rfl, rfl, trivial⟩
theorem M_form_b98_e {n : Nat} {r0 : (Int32) × J} {f : Nat} {l1 : Int32} {l2 : Int32} {l3 : Int32} {l4 : Int64} {l6 : Int64} {σ : J} (h : M_form_b98 n f l1 l2 l3 l4 l6 σ = some r0) : q_ex q_pr n 2 94 98 (q_L [(0, .inr (.inr (some (24, 0)))), (1, .inl l1), (2, .inl l2), (3, .inl l3), (4, .inr (.inl l4)), (6, .inr (.inl l6))]) [] σ (M_form_r r0) := by
  unfold M_form_b98 at h
  refine q_ex_go 2 (pc' := 103) (L' := (q_L [(0, .inr (.inr (some (24, 0)))), (1, .inl l1), (2, .inl l2), (3, .inl l3), (4, .inr (.inl l4)), (6, .inr (.inl l6))])) (st' := [.inl 1]) (σ' := σ) (fun _ => rfl) ?_
  exact q_ex_ll (M_form_b103_e h) ⟨rfl, rfl, rfl, rfl, rfl, rfl, trivial⟩
theorem M_form_b83_e {n : Nat} {r0 : (Int32) × J} {f : Nat} {l1 : Int32} {l2 : Int32} {l3 : Int32} {l4 : Int64} {l6 : Int64} {σ : J} (h : M_form_b83 n f l1 l2 l3 l4 l6 σ = some r0) : q_ex q_pr n 2 94 83 (q_L [(0, .inr (.inr (some (24, 0)))), (1, .inl l1), (2, .inl l2), (3, .inl l3), (4, .inr (.inl l4)), (6, .inr (.inl l6))]) [] σ (M_form_r r0) := by
  unfold M_form_b83 at h
  refine q_ex_br 3 (c := l3 = 8) (pc1 := 89) (pc2 := 98) (L' := (q_L [(0, .inr (.inr (some (24, 0)))), (1, .inl l1), (2, .inl l2), (3, .inl l3), (4, .inr (.inl l4)), (6, .inr (.inl l6))])) (st' := []) (σ' := σ) (fun _ => rfl) (fun hc => ?_) (fun hc => ?_)
  · rw [if_pos hc] at h
    obtain ⟨q5, hq5, h⟩ := Option.bind_eq_some_iff.mp h
    refine q_ex_ca 3 (k1 := 122) (vs := [.inr (.inl l4), .inr (.inl 1)]) (pc' := 95) (L' := (q_L [(0, .inr (.inr (some (24, 0)))), (1, .inl l1), (2, .inl l2), (3, .inl l3), (4, .inr (.inl l4)), (6, .inr (.inl l6))])) (rest := []) (σ' := σ) (fun _ => rfl) (q_ex_dd (M_within_e hq5) (Nat.le_of_ble_eq_true rfl)) rfl ?_
    refine q_ex_br 1 (c := q5.1 = 0) (pc1 := 102) (pc2 := 98) (L' := (q_L [(0, .inr (.inr (some (24, 0)))), (1, .inl l1), (2, .inl l2), (3, .inl l3), (4, .inr (.inl l4)), (6, .inr (.inl l6))])) (st' := []) (σ' := q5.2) (fun _ => rfl) (fun hc => ?_) (fun hc => ?_)
    · rw [if_pos hc] at h
      exact q_ex_ll (M_form_b102_e h) ⟨rfl, rfl, rfl, rfl, rfl, rfl, trivial⟩
    · rw [if_neg hc] at h
      exact q_ex_ll (M_form_b98_e h) ⟨rfl, rfl, rfl, rfl, rfl, rfl, trivial⟩
  · rw [if_neg hc] at h
    exact q_ex_ll (M_form_b98_e h) ⟨rfl, rfl, rfl, rfl, rfl, rfl, trivial⟩
theorem M_form_b66_e {n : Nat} {r0 : (Int32) × J} {f : Nat} {l1 : Int32} {l2 : Int32} {l3 : Int32} {l4 : Int64} {l6 : Int64} {σ : J} (h : M_form_b66 n f l1 l2 l3 l4 l6 σ = some r0) : q_ex q_pr n 2 94 66 (q_L [(0, .inr (.inr (some (24, 0)))), (1, .inl l1), (2, .inl l2), (3, .inl l3), (4, .inr (.inl l4)), (6, .inr (.inl l6))]) [] σ (M_form_r r0) := by
  unfold M_form_b66 at h
  refine q_ex_br 3 (c := l3 = 7) (pc1 := 72) (pc2 := 83) (L' := (q_L [(0, .inr (.inr (some (24, 0)))), (1, .inl l1), (2, .inl l2), (3, .inl l3), (4, .inr (.inl l4)), (6, .inr (.inl l6))])) (st' := []) (σ' := σ) (fun _ => rfl) (fun hc => ?_) (fun hc => ?_)
  · rw [if_pos hc] at h
    obtain ⟨q4, hq4, h⟩ := Option.bind_eq_some_iff.mp h
    refine q_ex_ca 3 (k1 := 122) (vs := [.inr (.inl l4), .inr (.inl 3)]) (pc' := 80) (L' := (q_L [(0, .inr (.inr (some (24, 0)))), (1, .inl l1), (2, .inl l2), (3, .inl l3), (4, .inr (.inl l4)), (6, .inr (.inl l6))])) (rest := []) (σ' := σ) (fun _ => rfl) (q_ex_dd (M_within_e hq4) (Nat.le_of_ble_eq_true rfl)) rfl ?_
    refine q_ex_br 1 (c := q4.1 = 0) (pc1 := 102) (pc2 := 83) (L' := (q_L [(0, .inr (.inr (some (24, 0)))), (1, .inl l1), (2, .inl l2), (3, .inl l3), (4, .inr (.inl l4)), (6, .inr (.inl l6))])) (st' := []) (σ' := q4.2) (fun _ => rfl) (fun hc => ?_) (fun hc => ?_)
    · rw [if_pos hc] at h
      exact q_ex_ll (M_form_b102_e h) ⟨rfl, rfl, rfl, rfl, rfl, rfl, trivial⟩
    · rw [if_neg hc] at h
      exact q_ex_ll (M_form_b83_e h) ⟨rfl, rfl, rfl, rfl, rfl, rfl, trivial⟩
  · rw [if_neg hc] at h
    exact q_ex_ll (M_form_b83_e h) ⟨rfl, rfl, rfl, rfl, rfl, rfl, trivial⟩
theorem M_form_b26_e {n : Nat} {r0 : (Int32) × J} {f : Nat} {l1 : Int32} {l2 : Int32} {l3 : Int32} {l4 : Int64} {l6 : Int64} {s0 : Int32} {σ : J} (h : M_form_b26 n f l1 l2 l3 l4 l6 s0 σ = some r0) : q_ex q_pr n 2 94 26 (q_L [(0, .inr (.inr (some (24, 0)))), (1, .inl l1), (2, .inl l2), (3, .inl l3), (4, .inr (.inl l4)), (6, .inr (.inl l6))]) [.inl s0] σ (M_form_r r0) := by
  unfold M_form_b26 at h
  obtain ⟨q1, hq1, h⟩ := Option.bind_eq_some_iff.mp h
  refine q_ex_ca 5 (k1 := 122) (vs := [.inr (.inl l2.toInt64), .inr (.inl 2)]) (pc' := 36) (L' := (q_s1 (q_L [(0, .inr (.inr (some (24, 0)))), (1, .inl l1), (2, .inl l2), (3, .inl l3), (4, .inr (.inl l4)), (6, .inr (.inl l6))]) 8 (.inl s0))) (rest := []) (σ' := σ) (fun _ => rfl) (q_ex_dd (M_within_e hq1) (Nat.le_of_ble_eq_true rfl)) rfl ?_
  refine q_ex_br 1 (c := q1.1 = 0) (pc1 := 102) (pc2 := 39) (L' := (q_s1 (q_L [(0, .inr (.inr (some (24, 0)))), (1, .inl l1), (2, .inl l2), (3, .inl l3), (4, .inr (.inl l4)), (6, .inr (.inl l6))]) 8 (.inl s0))) (st' := []) (σ' := q1.2) (fun _ => rfl) (fun hc => ?_) (fun hc => ?_)
  · rw [if_pos hc] at h
    exact q_ex_ll (M_form_b102_e h) ⟨rfl, rfl, rfl, rfl, rfl, rfl, trivial⟩
  · rw [if_neg hc] at h
    obtain ⟨q2, hq2, h⟩ := Option.bind_eq_some_iff.mp h
    refine q_ex_ca 4 (k1 := 122) (vs := [.inr (.inl l3.toInt64), .inr (.inl 9)]) (pc' := 47) (L' := (q_s1 (q_L [(0, .inr (.inr (some (24, 0)))), (1, .inl l1), (2, .inl l2), (3, .inl l3), (4, .inr (.inl l4)), (6, .inr (.inl l6))]) 8 (.inl s0))) (rest := []) (σ' := q1.2) (fun _ => rfl) (q_ex_dd (M_within_e hq2) (Nat.le_of_ble_eq_true rfl)) rfl ?_
    refine q_ex_br 1 (c := q2.1 = 0) (pc1 := 102) (pc2 := 50) (L' := (q_s1 (q_L [(0, .inr (.inr (some (24, 0)))), (1, .inl l1), (2, .inl l2), (3, .inl l3), (4, .inr (.inl l4)), (6, .inr (.inl l6))]) 8 (.inl s0))) (st' := []) (σ' := q2.2) (fun _ => rfl) (fun hc => ?_) (fun hc => ?_)
    · rw [if_pos hc] at h
      exact q_ex_ll (M_form_b102_e h) ⟨rfl, rfl, rfl, rfl, rfl, rfl, trivial⟩
    · rw [if_neg hc] at h
      refine q_ex_br 2 (c := s0 = 0) (pc1 := 66) (pc2 := 55) (L' := (q_s1 (q_L [(0, .inr (.inr (some (24, 0)))), (1, .inl l1), (2, .inl l2), (3, .inl l3), (4, .inr (.inl l4)), (6, .inr (.inl l6))]) 8 (.inl s0))) (st' := []) (σ' := q2.2) (fun _ => rfl) (fun hc => ?_) (fun hc => ?_)
      · rw [if_pos hc] at h
        exact q_ex_ll (M_form_b66_e h) ⟨rfl, rfl, rfl, rfl, rfl, rfl, trivial⟩
      · rw [if_neg hc] at h
        obtain ⟨q3, hq3, h⟩ := Option.bind_eq_some_iff.mp h
        refine q_ex_ca 3 (k1 := 122) (vs := [.inr (.inl l4), .inr (.inl 2)]) (pc' := 63) (L' := (q_s1 (q_L [(0, .inr (.inr (some (24, 0)))), (1, .inl l1), (2, .inl l2), (3, .inl l3), (4, .inr (.inl l4)), (6, .inr (.inl l6))]) 8 (.inl s0))) (rest := []) (σ' := q2.2) (fun _ => rfl) (q_ex_dd (M_within_e hq3) (Nat.le_of_ble_eq_true rfl)) rfl ?_
        refine q_ex_br 1 (c := q3.1 = 0) (pc1 := 102) (pc2 := 66) (L' := (q_s1 (q_L [(0, .inr (.inr (some (24, 0)))), (1, .inl l1), (2, .inl l2), (3, .inl l3), (4, .inr (.inl l4)), (6, .inr (.inl l6))]) 8 (.inl s0))) (st' := []) (σ' := q3.2) (fun _ => rfl) (fun hc => ?_) (fun hc => ?_)
        · rw [if_pos hc] at h
          exact q_ex_ll (M_form_b102_e h) ⟨rfl, rfl, rfl, rfl, rfl, rfl, trivial⟩
        · rw [if_neg hc] at h
          exact q_ex_ll (M_form_b66_e h) ⟨rfl, rfl, rfl, rfl, rfl, rfl, trivial⟩
theorem M_form_b21_e {n : Nat} {r0 : (Int32) × J} {f : Nat} {l1 : Int32} {l2 : Int32} {l3 : Int32} {l4 : Int64} {l6 : Int64} {σ : J} (h : M_form_b21 n f l1 l2 l3 l4 l6 σ = some r0) : q_ex q_pr n 2 94 21 (q_L [(0, .inr (.inr (some (24, 0)))), (1, .inl l1), (2, .inl l2), (3, .inl l3), (4, .inr (.inl l4)), (6, .inr (.inl l6))]) [] σ (M_form_r r0) := by
  unfold M_form_b21 at h
  refine q_ex_go 2 (pc' := 26) (L' := (q_L [(0, .inr (.inr (some (24, 0)))), (1, .inl l1), (2, .inl l2), (3, .inl l3), (4, .inr (.inl l4)), (6, .inr (.inl l6))])) (st' := [.inl 1]) (σ' := σ) (fun _ => rfl) ?_
  exact q_ex_ll (M_form_b26_e h) ⟨rfl, rfl, rfl, rfl, rfl, rfl, trivial⟩
theorem M_form_b0_e {n : Nat} {r0 : (Int32) × J} {f : Nat} {l1 : Int32} {l2 : Int32} {l3 : Int32} {l4 : Int64} {l6 : Int64} {σ : J} (h : M_form_b0 n f l1 l2 l3 l4 l6 σ = some r0) : q_ex q_pr n 2 94 0 (q_L [(0, .inr (.inr (some (24, 0)))), (1, .inl l1), (2, .inl l2), (3, .inl l3), (4, .inr (.inl l4)), (6, .inr (.inl l6))]) [] σ (M_form_r r0) := by
  unfold M_form_b0 at h
  refine q_ex_br 3 (c := l3 = 1) (pc1 := 21) (pc2 := 5) (L' := (q_L [(0, .inr (.inr (some (24, 0)))), (1, .inl l1), (2, .inl l2), (3, .inl l3), (4, .inr (.inl l4)), (6, .inr (.inl l6))])) (st' := []) (σ' := σ) (fun _ => rfl) (fun hc => ?_) (fun hc => ?_)
  · rw [if_pos hc] at h
    exact q_ex_ll (M_form_b21_e h) ⟨rfl, rfl, rfl, rfl, rfl, rfl, trivial⟩
  · rw [if_neg hc] at h
    refine q_ex_br 3 (c := l3 = 2) (pc1 := 21) (pc2 := 10) (L' := (q_L [(0, .inr (.inr (some (24, 0)))), (1, .inl l1), (2, .inl l2), (3, .inl l3), (4, .inr (.inl l4)), (6, .inr (.inl l6))])) (st' := []) (σ' := σ) (fun _ => rfl) (fun hc => ?_) (fun hc => ?_)
    · rw [if_pos hc] at h
      exact q_ex_ll (M_form_b21_e h) ⟨rfl, rfl, rfl, rfl, rfl, rfl, trivial⟩
    · rw [if_neg hc] at h
      refine q_ex_br 3 (c := l3 = 3) (pc1 := 21) (pc2 := 15) (L' := (q_L [(0, .inr (.inr (some (24, 0)))), (1, .inl l1), (2, .inl l2), (3, .inl l3), (4, .inr (.inl l4)), (6, .inr (.inl l6))])) (st' := []) (σ' := σ) (fun _ => rfl) (fun hc => ?_) (fun hc => ?_)
      · rw [if_pos hc] at h
        exact q_ex_ll (M_form_b21_e h) ⟨rfl, rfl, rfl, rfl, rfl, rfl, trivial⟩
      · rw [if_neg hc] at h
        refine q_ex_br 3 (c := l3 = 9) (pc1 := 21) (pc2 := 25) (L' := (q_L [(0, .inr (.inr (some (24, 0)))), (1, .inl l1), (2, .inl l2), (3, .inl l3), (4, .inr (.inl l4)), (6, .inr (.inl l6))])) (st' := []) (σ' := σ) (fun _ => rfl) (fun hc => ?_) (fun hc => ?_)
        · rw [if_pos hc] at h
          exact q_ex_ll (M_form_b21_e h) ⟨rfl, rfl, rfl, rfl, rfl, rfl, trivial⟩
        · rw [if_neg hc] at h
          refine q_ex_go 1 (pc' := 26) (L' := (q_L [(0, .inr (.inr (some (24, 0)))), (1, .inl l1), (2, .inl l2), (3, .inl l3), (4, .inr (.inl l4)), (6, .inr (.inl l6))])) (st' := [.inl 0]) (σ' := σ) (fun _ => rfl) ?_
          exact q_ex_ll (M_form_b26_e h) ⟨rfl, rfl, rfl, rfl, rfl, rfl, trivial⟩
theorem M_form_e {n : Nat} {r0 : (Int32) × J} {f : Nat} {x1 : Int32} {x2 : Int32} {x3 : Int32} {x4 : Int64} {x6 : Int64} {σ : J} (h : M_form n f x1 x2 x3 x4 x6 σ = some r0) : q_ex q_pr n 2 94 0 (q_args 0 [.inr (.inr (some (24, 0))), .inl x1, .inl x2, .inl x3, .inr (.inl x4), .inr (.inl x6)]) [] σ (M_form_r r0) := q_ex_ll (M_form_b0_e h) ⟨rfl, rfl, rfl, rfl, rfl, rfl, trivial⟩
def M_found_r : (Int64) × J → Res := fun q => (.inl (some (.inr (.inl q.1))), q.2)
-- 95: M_found
def M_found_b36 (n : Nat) (σ : J) : Option ((Int64) × J) := some ((-1), σ)
def M_found_b94 (n : Nat) (s0 : Int64) (σ : J) : Option ((Int64) × J) := some (s0, σ)
def M_found_b14 (n : Nat) (l1 : Int32) (l2 : Int32) (s1 : Int32) (σ : J) : Option ((Int64) × J) := q_bs (q_sI σ 24 0 0 s1) fun σ2 => if (σ2.1 24 0 0) ≤ 0 then if l2 < 0 then M_found_b36 n σ2 else if l2 ≤ 10 then if 3 ≤ l2 then if 7 ≤ l2 then if q_in (((4 * l1) + l2) - 7) 16 = true then M_found_b94 n (σ2.2.2.1 48 0 (((4 * l1) + l2) - 7).toNatClampNeg) σ2 else none else if q_in (((4 * l1) + l2) - 3) 16 = true then M_found_b94 n ((σ2.2.1 47 0 (((4 * l1) + l2) - 3).toNatClampNeg).toInt64) σ2 else none else if q_in ((3 * l1) + l2) 12 = true then M_found_b94 n ((σ2.2.1 46 0 ((3 * l1) + l2).toNatClampNeg).toInt64) σ2 else none else M_found_b36 n σ2 else some (0, σ2)
def M_found_b0 (n : Nat) (l1 : Int32) (l2 : Int32) (σ : J) : Option ((Int64) × J) := (M_isSession n l1 σ).bind fun q1 => if q1.1 = 0 then M_found_b14 n l1 l2 1 q1.2 else M_found_b14 n l1 l2 0 q1.2
def M_found (n : Nat) (x1 : Int32) (x2 : Int32) (σ : J) : Option ((Int64) × J) := M_found_b0 n x1 x2 σ
theorem M_found_b36_e {n : Nat} {r0 : (Int64) × J} {σ : J} (h : M_found_b36 n σ = some r0) : q_ex q_pr n 1 95 36 (q_L []) [] σ (M_found_r r0) := by
  unfold M_found_b36 at h
  refine q_ex_go 1 (pc' := 39) (L' := (q_L [])) (st' := [.inr (.inl (-1))]) (σ' := σ) (fun _ => rfl) ?_
  cases h
  exact ⟨1, rfl⟩
theorem M_found_b94_e {n : Nat} {r0 : (Int64) × J} {s0 : Int64} {σ : J} (h : M_found_b94 n s0 σ = some r0) : q_ex q_pr n 1 95 94 (q_L []) [.inr (.inl s0)] σ (M_found_r r0) := by
  unfold M_found_b94 at h
  cases h
  exact ⟨1, rfl⟩
theorem M_found_b14_e {n : Nat} {r0 : (Int64) × J} {l1 : Int32} {l2 : Int32} {s1 : Int32} {σ : J} (h : M_found_b14 n l1 l2 s1 σ = some r0) : q_ex q_pr n 1 95 14 (q_L [(0, .inr (.inr (some (24, 0)))), (1, .inl l1), (2, .inl l2)]) [.inl s1, .inr (.inr (some (24, 0)))] σ (M_found_r r0) := by
  unfold M_found_b14 at h
  refine q_ex_go 1 (pc' := 17) (L' := (q_L [(0, .inr (.inr (some (24, 0)))), (1, .inl l1), (2, .inl l2)])) (st' := []) (σ' := (q_sI σ 24 0 0 s1)) (fun _ => rfl) ?_
  refine q_nm (G := fun τ => q_ex q_pr n _ 95 17 (q_L [(0, .inr (.inr (some (24, 0)))), (1, .inl l1), (2, .inl l2)]) [] τ _) h (fun σ2 h => ?_)
  refine q_ex_br 3 (c := (σ2.1 24 0 0) ≤ 0) (pc1 := 26) (pc2 := 24) (L' := (q_L [(0, .inr (.inr (some (24, 0)))), (1, .inl l1), (2, .inl l2)])) (st' := []) (σ' := σ2) (fun _ => rfl) (fun hc => ?_) (fun hc => ?_)
  · rw [if_pos hc] at h
    refine q_ex_br 2 (c := l2 < 0) (pc1 := 36) (pc2 := 30) (L' := (q_L [(0, .inr (.inr (some (24, 0)))), (1, .inl l1), (2, .inl l2)])) (st' := []) (σ' := σ2) (fun _ => rfl) (fun hc => ?_) (fun hc => ?_)
    · rw [if_pos hc] at h
      exact q_ex_ll (M_found_b36_e h) trivial
    · rw [if_neg hc] at h
      refine q_ex_br 3 (c := l2 ≤ 10) (pc1 := 40) (pc2 := 36) (L' := (q_L [(0, .inr (.inr (some (24, 0)))), (1, .inl l1), (2, .inl l2)])) (st' := []) (σ' := σ2) (fun _ => rfl) (fun hc => ?_) (fun hc => ?_)
      · rw [if_pos hc] at h
        refine q_ex_br 3 (c := 3 ≤ l2) (pc1 := 59) (pc2 := 45) (L' := (q_L [(0, .inr (.inr (some (24, 0)))), (1, .inl l1), (2, .inl l2)])) (st' := []) (σ' := σ2) (fun _ => rfl) (fun hc => ?_) (fun hc => ?_)
        · rw [if_pos hc] at h
          refine q_ex_br 3 (c := 7 ≤ l2) (pc1 := 81) (pc2 := 65) (L' := (q_L [(0, .inr (.inr (some (24, 0)))), (1, .inl l1), (2, .inl l2)])) (st' := []) (σ' := σ2) (fun _ => rfl) (fun hc => ?_) (fun hc => ?_)
          · rw [if_pos hc] at h
            refine q_by h (fun hz h => ?_)
            refine q_ex_gb 10 (pc' := 94) (L' := (q_L [(0, .inr (.inr (some (24, 0)))), (1, .inl l1), (2, .inl l2)])) (st' := [.inr (.inl (σ2.2.2.1 48 0 (((4 * l1) + l2) - 7).toNatClampNeg))]) (σ' := σ2) (fun _ => rfl) hz ?_
            exact q_ex_ll (M_found_b94_e h) trivial
          · rw [if_neg hc] at h
            refine q_by h (fun hz h => ?_)
            refine q_ex_gb 10 (pc' := 77) (L' := (q_L [(0, .inr (.inr (some (24, 0)))), (1, .inl l1), (2, .inl l2)])) (st' := [.inl (σ2.2.1 47 0 (((4 * l1) + l2) - 3).toNatClampNeg)]) (σ' := σ2) (fun _ => rfl) hz ?_
            refine q_ex_go 2 (pc' := 94) (L' := (q_L [(0, .inr (.inr (some (24, 0)))), (1, .inl l1), (2, .inl l2)])) (st' := [.inr (.inl ((σ2.2.1 47 0 (((4 * l1) + l2) - 3).toNatClampNeg).toInt64))]) (σ' := σ2) (fun _ => rfl) ?_
            exact q_ex_ll (M_found_b94_e h) trivial
        · rw [if_neg hc] at h
          refine q_by h (fun hz h => ?_)
          refine q_ex_gb 8 (pc' := 55) (L' := (q_L [(0, .inr (.inr (some (24, 0)))), (1, .inl l1), (2, .inl l2)])) (st' := [.inl (σ2.2.1 46 0 ((3 * l1) + l2).toNatClampNeg)]) (σ' := σ2) (fun _ => rfl) hz ?_
          refine q_ex_go 2 (pc' := 94) (L' := (q_L [(0, .inr (.inr (some (24, 0)))), (1, .inl l1), (2, .inl l2)])) (st' := [.inr (.inl ((σ2.2.1 46 0 ((3 * l1) + l2).toNatClampNeg).toInt64))]) (σ' := σ2) (fun _ => rfl) ?_
          exact q_ex_ll (M_found_b94_e h) trivial
      · rw [if_neg hc] at h
        exact q_ex_ll (M_found_b36_e h) trivial
  · rw [if_neg hc] at h
    refine q_ex_go 1 (pc' := 25) (L' := (q_L [(0, .inr (.inr (some (24, 0)))), (1, .inl l1), (2, .inl l2)])) (st' := [.inr (.inl 0)]) (σ' := σ2) (fun _ => rfl) ?_
    cases h
    exact ⟨1, rfl⟩
theorem M_found_b0_e {n : Nat} {r0 : (Int64) × J} {l1 : Int32} {l2 : Int32} {σ : J} (h : M_found_b0 n l1 l2 σ = some r0) : q_ex q_pr n 1 95 0 (q_L [(0, .inr (.inr (some (24, 0)))), (1, .inl l1), (2, .inl l2)]) [] σ (M_found_r r0) := by
  unfold M_found_b0 at h
  obtain ⟨q1, hq1, h⟩ := Option.bind_eq_some_iff.mp h
  refine q_ex_ca 4 (k1 := 98) (vs := [.inr (.inr (some (24, 0))), .inl l1]) (pc' := 6) (L' := (q_L [(0, .inr (.inr (some (24, 0)))), (1, .inl l1), (2, .inl l2)])) (rest := [.inr (.inr (some (24, 0)))]) (σ' := σ) (fun _ => rfl) (q_ex_dd (M_isSession_e hq1) (Nat.le_of_ble_eq_true rfl)) rfl ?_
  refine q_ex_br 1 (c := q1.1 = 0) (pc1 := 13) (pc2 := 9) (L' := (q_L [(0, .inr (.inr (some (24, 0)))), (1, .inl l1), (2, .inl l2)])) (st' := [.inr (.inr (some (24, 0)))]) (σ' := q1.2) (fun _ => rfl) (fun hc => ?_) (fun hc => ?_)
  · rw [if_pos hc] at h
    refine q_ex_go 1 (pc' := 14) (L' := (q_L [(0, .inr (.inr (some (24, 0)))), (1, .inl l1), (2, .inl l2)])) (st' := [.inl 1, .inr (.inr (some (24, 0)))]) (σ' := q1.2) (fun _ => rfl) ?_
    exact q_ex_ll (M_found_b14_e h) ⟨rfl, rfl, rfl, trivial⟩
  · rw [if_neg hc] at h
    refine q_ex_go 2 (pc' := 14) (L' := (q_L [(0, .inr (.inr (some (24, 0)))), (1, .inl l1), (2, .inl l2)])) (st' := [.inl 0, .inr (.inr (some (24, 0)))]) (σ' := q1.2) (fun _ => rfl) ?_
    exact q_ex_ll (M_found_b14_e h) ⟨rfl, rfl, rfl, trivial⟩
theorem M_found_e {n : Nat} {r0 : (Int64) × J} {x1 : Int32} {x2 : Int32} {σ : J} (h : M_found n x1 x2 σ = some r0) : q_ex q_pr n 1 95 0 (q_args 0 [.inr (.inr (some (24, 0))), .inl x1, .inl x2]) [] σ (M_found_r r0) := q_ex_ll (M_found_b0_e h) ⟨rfl, rfl, rfl, trivial⟩
def M_now_r : (Int32) × J → Res := fun q => (.inl (some (.inl q.1)), q.2)
-- 103: M_now
def M_now_b0 (n : Nat) (σ : J) : Option ((Int32) × J) := q_bs (q_sI σ 24 0 0 0) fun σ1 => some (σ1.1 24 3 0, σ1)
def M_now (n : Nat) (σ : J) : Option ((Int32) × J) := M_now_b0 n σ
theorem M_now_b0_e {n : Nat} {r0 : (Int32) × J} {σ : J} (h : M_now_b0 n σ = some r0) : q_ex q_pr n 0 103 0 (q_L [(0, .inr (.inr (some (24, 0))))]) [] σ (M_now_r r0) := by
  unfold M_now_b0 at h
  refine q_ex_go 3 (pc' := 5) (L' := (q_L [(0, .inr (.inr (some (24, 0))))])) (st' := []) (σ' := (q_sI σ 24 0 0 0)) (fun _ => rfl) ?_
  refine q_nm (G := fun τ => q_ex q_pr n _ 103 5 (q_L [(0, .inr (.inr (some (24, 0))))]) [] τ _) h (fun σ1 h => ?_)
  refine q_ex_go 2 (pc' := 9) (L' := (q_L [(0, .inr (.inr (some (24, 0))))])) (st' := [.inl (σ1.1 24 3 0)]) (σ' := σ1) (fun _ => rfl) ?_
  cases h
  exact ⟨1, rfl⟩
theorem M_now_e {n : Nat} {r0 : (Int32) × J} {σ : J} (h : M_now n σ = some r0) : q_ex q_pr n 0 103 0 (q_args 0 [.inr (.inr (some (24, 0)))]) [] σ (M_now_r r0) := q_ex_ll (M_now_b0_e h) ⟨rfl, trivial⟩
def M_open_r : (Int32) × J → Res := fun q => (.inl (some (.inl q.1)), q.2)
-- 104: M_open
def M_open_b36 (n : Nat) (f : Nat) (l1 : Int32) (s1 : Int32) (σ : J) : Option ((Int32) × J) := q_bs (q_sI σ 24 0 0 s1) fun σ3 => if (σ3.1 24 0 0) ≤ 0 then if q_in l1 4 = true then if q_in l1 4 = true then q_bs (q_sA σ3 34 0 (upd (σ3.2.1 34 0) l1.toNatClampNeg ((σ3.2.1 34 0 l1.toNatClampNeg) + 1))) fun σ4 => if q_in l1 4 = true then some (σ4.2.1 34 0 l1.toNatClampNeg, σ4) else none else none else none else some (0, σ3)
def M_open_b32 (n : Nat) (f : Nat) (l1 : Int32) (σ : J) : Option ((Int32) × J) := M_open_b36 n f l1 (σ.1 24 0 0) σ
def M_open_b0 (n : Nat) (f : Nat) (l1 : Int32) (σ : J) : Option ((Int32) × J) := (M_first n f l1 1 σ).bind fun q1 => q_bs (q_sI q1.2 24 0 0 q1.1) fun σ2 => if (σ2.1 24 0 0) = 0 then if q_in l1 4 = true then if (σ2.2.1 34 0 l1.toNatClampNeg) = 4 then M_open_b36 n f l1 3 σ2 else M_open_b32 n f l1 σ2 else none else M_open_b32 n f l1 σ2
def M_open (n : Nat) (f : Nat) (x1 : Int32) (σ : J) : Option ((Int32) × J) := M_open_b0 n f x1 σ
theorem M_open_b36_e {n : Nat} {r0 : (Int32) × J} {f : Nat} {l1 : Int32} {s1 : Int32} {σ : J} (h : M_open_b36 n f l1 s1 σ = some r0) : q_ex q_pr n 2 104 36 (q_L [(0, .inr (.inr (some (24, 0)))), (1, .inl l1)]) [.inl s1, .inr (.inr (some (24, 0)))] σ (M_open_r r0) := by
  unfold M_open_b36 at h
  refine q_ex_go 1 (pc' := 39) (L' := (q_L [(0, .inr (.inr (some (24, 0)))), (1, .inl l1)])) (st' := []) (σ' := (q_sI σ 24 0 0 s1)) (fun _ => rfl) ?_
  refine q_nm (G := fun τ => q_ex q_pr n _ 104 39 (q_L [(0, .inr (.inr (some (24, 0)))), (1, .inl l1)]) [] τ _) h (fun σ3 h => ?_)
  refine q_ex_br 3 (c := (σ3.1 24 0 0) ≤ 0) (pc1 := 48) (pc2 := 46) (L' := (q_L [(0, .inr (.inr (some (24, 0)))), (1, .inl l1)])) (st' := []) (σ' := σ3) (fun _ => rfl) (fun hc => ?_) (fun hc => ?_)
  · rw [if_pos hc] at h
    refine q_by h (fun hz h => ?_)
    refine q_ex_gb 5 (pc' := 55) (L' := (q_L [(0, .inr (.inr (some (24, 0)))), (1, .inl l1)])) (st' := [.inl (σ3.2.1 34 0 l1.toNatClampNeg), .inl l1, .inr (.inr (some (34, 0)))]) (σ' := σ3) (fun _ => rfl) hz ?_
    refine q_by h (fun hz h => ?_)
    refine q_ex_gb 3 (pc' := 58) (L' := (q_L [(0, .inr (.inr (some (24, 0)))), (1, .inl l1)])) (st' := []) (σ' := (q_sA σ3 34 0 (upd (σ3.2.1 34 0) l1.toNatClampNeg ((σ3.2.1 34 0 l1.toNatClampNeg) + 1)))) (fun _ => rfl) hz ?_
    refine q_nm (G := fun τ => q_ex q_pr n _ 104 58 (q_L [(0, .inr (.inr (some (24, 0)))), (1, .inl l1)]) [] τ _) h (fun σ4 h => ?_)
    refine q_by h (fun hz h => ?_)
    refine q_ex_gb 4 (pc' := 64) (L' := (q_L [(0, .inr (.inr (some (24, 0)))), (1, .inl l1)])) (st' := [.inl (σ4.2.1 34 0 l1.toNatClampNeg)]) (σ' := σ4) (fun _ => rfl) hz ?_
    cases h
    exact ⟨1, rfl⟩
  · rw [if_neg hc] at h
    refine q_ex_go 1 (pc' := 47) (L' := (q_L [(0, .inr (.inr (some (24, 0)))), (1, .inl l1)])) (st' := [.inl 0]) (σ' := σ3) (fun _ => rfl) ?_
    cases h
    exact ⟨1, rfl⟩
theorem M_open_b32_e {n : Nat} {r0 : (Int32) × J} {f : Nat} {l1 : Int32} {σ : J} (h : M_open_b32 n f l1 σ = some r0) : q_ex q_pr n 2 104 32 (q_L [(0, .inr (.inr (some (24, 0)))), (1, .inl l1)]) [.inr (.inr (some (24, 0)))] σ (M_open_r r0) := by
  unfold M_open_b32 at h
  refine q_ex_go 2 (pc' := 36) (L' := (q_L [(0, .inr (.inr (some (24, 0)))), (1, .inl l1)])) (st' := [.inl (σ.1 24 0 0), .inr (.inr (some (24, 0)))]) (σ' := σ) (fun _ => rfl) ?_
  exact q_ex_ll (M_open_b36_e h) ⟨rfl, rfl, trivial⟩
theorem M_open_b0_e {n : Nat} {r0 : (Int32) × J} {f : Nat} {l1 : Int32} {σ : J} (h : M_open_b0 n f l1 σ = some r0) : q_ex q_pr n 2 104 0 (q_L [(0, .inr (.inr (some (24, 0)))), (1, .inl l1)]) [] σ (M_open_r r0) := by
  unfold M_open_b0 at h
  obtain ⟨q1, hq1, h⟩ := Option.bind_eq_some_iff.mp h
  refine q_ex_ca 5 (k1 := 90) (vs := [.inr (.inr (some (24, 0))), .inl l1, .inl 1]) (pc' := 7) (L' := (q_L [(0, .inr (.inr (some (24, 0)))), (1, .inl l1)])) (rest := [.inr (.inr (some (24, 0)))]) (σ' := σ) (fun _ => rfl) (q_ex_dd (M_first_e hq1) (Nat.le_of_ble_eq_true rfl)) rfl ?_
  refine q_ex_go 1 (pc' := 10) (L' := (q_L [(0, .inr (.inr (some (24, 0)))), (1, .inl l1)])) (st' := []) (σ' := (q_sI q1.2 24 0 0 q1.1)) (fun _ => rfl) ?_
  refine q_nm (G := fun τ => q_ex q_pr n _ 104 10 (q_L [(0, .inr (.inr (some (24, 0)))), (1, .inl l1)]) [] τ _) h (fun σ2 h => ?_)
  refine q_ex_br 4 (c := (σ2.1 24 0 0) = 0) (pc1 := 18) (pc2 := 32) (L' := (q_L [(0, .inr (.inr (some (24, 0)))), (1, .inl l1)])) (st' := [.inr (.inr (some (24, 0)))]) (σ' := σ2) (fun _ => rfl) (fun hc => ?_) (fun hc => ?_)
  · rw [if_pos hc] at h
    refine q_by h (fun hz h => ?_)
    refine q_ex_gb 4 (pc' := 24) (L' := (q_L [(0, .inr (.inr (some (24, 0)))), (1, .inl l1)])) (st' := [.inl (σ2.2.1 34 0 l1.toNatClampNeg), .inr (.inr (some (24, 0)))]) (σ' := σ2) (fun _ => rfl) hz ?_
    refine q_ex_br 2 (c := (σ2.2.1 34 0 l1.toNatClampNeg) = 4) (pc1 := 28) (pc2 := 32) (L' := (q_L [(0, .inr (.inr (some (24, 0)))), (1, .inl l1)])) (st' := [.inr (.inr (some (24, 0)))]) (σ' := σ2) (fun _ => rfl) (fun hc => ?_) (fun hc => ?_)
    · rw [if_pos hc] at h
      refine q_ex_go 2 (pc' := 36) (L' := (q_L [(0, .inr (.inr (some (24, 0)))), (1, .inl l1)])) (st' := [.inl 3, .inr (.inr (some (24, 0)))]) (σ' := σ2) (fun _ => rfl) ?_
      exact q_ex_ll (M_open_b36_e h) ⟨rfl, rfl, trivial⟩
    · rw [if_neg hc] at h
      exact q_ex_ll (M_open_b32_e h) ⟨rfl, rfl, trivial⟩
  · rw [if_neg hc] at h
    exact q_ex_ll (M_open_b32_e h) ⟨rfl, rfl, trivial⟩
theorem M_open_e {n : Nat} {r0 : (Int32) × J} {f : Nat} {x1 : Int32} {σ : J} (h : M_open n f x1 σ = some r0) : q_ex q_pr n 2 104 0 (q_args 0 [.inr (.inr (some (24, 0))), .inl x1]) [] σ (M_open_r r0) := q_ex_ll (M_open_b0_e h) ⟨rfl, rfl, trivial⟩
def M_order_r : (Int32) × J → Res := fun q => (.inl (some (.inl q.1)), q.2)
-- 105: M_order
def M_order_b76 (n : Nat) (k76 : Int32 → Int32 → Int32 → J → Option ((Int32) × J)) (f : Nat) (l1 : Int32) (l2 : Int32) (l3 : Int32) (σ : J) : Option ((Int32) × J) := if 4 ≤ l3 then q_bs (q_sI σ 24 30 0 ((σ.1 24 30 0) + 1)) fun σ6 => some ((σ6.1 24 30 0) - 1, σ6) else if q_in ((12 * l1) + l3) 72 = true then if q_in ((4 * l2) + l3) 72 = true then q_bs (q_sA σ 39 0 (upd (σ.2.1 39 0) (((4 * l2) + l3).toNatClampNeg) (σ.2.1 39 0 ((12 * l1) + l3).toNatClampNeg))) fun σ7 => if q_in ((12 * l1) + l3) 72 = true then if q_in ((4 * l2) + l3) 72 = true then q_bs (q_sL σ7 40 0 (vp_updL (σ7.2.2.1 40 0) (((4 * l2) + l3).toNatClampNeg) (σ7.2.2.1 40 0 ((12 * l1) + l3).toNatClampNeg))) fun σ8 => if q_in ((12 * l1) + l3) 72 = true then if q_in ((4 * l2) + l3) 72 = true then q_bs (q_sL σ8 41 0 (vp_updL (σ8.2.2.1 41 0) (((4 * l2) + l3).toNatClampNeg) (σ8.2.2.1 41 0 ((12 * l1) + l3).toNatClampNeg))) fun σ9 => k76 l1 l2 (l3 + 1) σ9 else none else none else none else none else none else none
def M_order_L76 (n : Nat) : Nat → Int32 → Int32 → Int32 → J → Option ((Int32) × J)
  | 0 => fun _ _ _ _ => none
  | f + 1 => fun l1 l2 l3 σ => M_order_b76 n (M_order_L76 n f) f l1 l2 l3 σ
def M_order_b40 (n : Nat) (f : Nat) (l1 : Int32) (s1 : Int32) (σ : J) : Option ((Int32) × J) := q_bs (q_sI σ 24 0 0 s1) fun σ4 => if (σ4.1 24 0 0) ≤ 0 then if q_in (3 * l1) 18 = true then if q_in (12 + (σ4.1 24 30 0)) 18 = true then q_bs (q_sA σ4 38 0 (upd (σ4.2.1 38 0) ((12 + (σ4.1 24 30 0)).toNatClampNeg) (σ4.2.1 38 0 (3 * l1).toNatClampNeg))) fun σ5 => M_order_L76 n f l1 (12 + (σ4.1 24 30 0)) 0 σ5 else none else none else some (0, σ4)
def M_order_b36 (n : Nat) (f : Nat) (l1 : Int32) (σ : J) : Option ((Int32) × J) := M_order_b40 n f l1 (σ.1 24 0 0) σ
def M_order_b0 (n : Nat) (f : Nat) (l1 : Int32) (σ : J) : Option ((Int32) × J) := (M_ready n f l1 1 σ).bind fun q1 => (M_first n f l1 q1.1 q1.2).bind fun q2 => q_bs (q_sI q2.2 24 0 0 q2.1) fun σ3 => if (σ3.1 24 0 0) = 0 then if (σ3.1 24 30 0) = 6 then M_order_b40 n f l1 4 σ3 else M_order_b36 n f l1 σ3 else M_order_b36 n f l1 σ3
def M_order (n : Nat) (f : Nat) (x1 : Int32) (σ : J) : Option ((Int32) × J) := M_order_b0 n f x1 σ
theorem M_order_b76_e {n : Nat} {r0 : (Int32) × J} {k76 : Int32 → Int32 → Int32 → J → Option ((Int32) × J)} {f : Nat} {l1 : Int32} {l2 : Int32} {l3 : Int32} {σ : J} (hk76 : ∀ {l1 : Int32} {l2 : Int32} {l3 : Int32} {σ : J}, k76 l1 l2 l3 σ = some r0 → q_ex q_pr n 2 105 76 (q_L [(0, .inr (.inr (some (24, 0)))), (1, .inl l1), (2, .inl l2), (3, .inl l3)]) [] σ (M_order_r r0)) (h : M_order_b76 n k76 f l1 l2 l3 σ = some r0) : q_ex q_pr n 2 105 76 (q_L [(0, .inr (.inr (some (24, 0)))), (1, .inl l1), (2, .inl l2), (3, .inl l3)]) [] σ (M_order_r r0) := by
  unfold M_order_b76 at h
  refine q_ex_br 3 (c := 4 ≤ l3) (pc1 := 150) (pc2 := 81) (L' := (q_L [(0, .inr (.inr (some (24, 0)))), (1, .inl l1), (2, .inl l2), (3, .inl l3)])) (st' := []) (σ' := σ) (fun _ => rfl) (fun hc => ?_) (fun hc => ?_)
  · rw [if_pos hc] at h
    refine q_ex_go 6 (pc' := 160) (L' := (q_L [(0, .inr (.inr (some (24, 0)))), (1, .inl l1), (2, .inl l2), (3, .inl l3)])) (st' := []) (σ' := (q_sI σ 24 30 0 ((σ.1 24 30 0) + 1))) (fun _ => rfl) ?_
    refine q_nm (G := fun τ => q_ex q_pr n _ 105 160 (q_L [(0, .inr (.inr (some (24, 0)))), (1, .inl l1), (2, .inl l2), (3, .inl l3)]) [] τ _) h (fun σ6 h => ?_)
    refine q_ex_go 4 (pc' := 166) (L' := (q_L [(0, .inr (.inr (some (24, 0)))), (1, .inl l1), (2, .inl l2), (3, .inl l3)])) (st' := [.inl ((σ6.1 24 30 0) - 1)]) (σ' := σ6) (fun _ => rfl) ?_
    cases h
    exact ⟨1, rfl⟩
  · rw [if_neg hc] at h
    refine q_by h (fun hz h => ?_)
    refine q_ex_gb 15 (pc' := 101) (L' := (q_L [(0, .inr (.inr (some (24, 0)))), (1, .inl l1), (2, .inl l2), (3, .inl l3)])) (st' := [.inl (σ.2.1 39 0 ((12 * l1) + l3).toNatClampNeg), .inl ((4 * l2) + l3), .inr (.inr (some (39, 0)))]) (σ' := σ) (fun _ => rfl) hz ?_
    refine q_by h (fun hz h => ?_)
    refine q_ex_gb 1 (pc' := 102) (L' := (q_L [(0, .inr (.inr (some (24, 0)))), (1, .inl l1), (2, .inl l2), (3, .inl l3)])) (st' := []) (σ' := (q_sA σ 39 0 (upd (σ.2.1 39 0) (((4 * l2) + l3).toNatClampNeg) (σ.2.1 39 0 ((12 * l1) + l3).toNatClampNeg)))) (fun _ => rfl) hz ?_
    refine q_nm (G := fun τ => q_ex q_pr n _ 105 102 (q_L [(0, .inr (.inr (some (24, 0)))), (1, .inl l1), (2, .inl l2), (3, .inl l3)]) [] τ _) h (fun σ7 h => ?_)
    refine q_by h (fun hz h => ?_)
    refine q_ex_gb 15 (pc' := 122) (L' := (q_L [(0, .inr (.inr (some (24, 0)))), (1, .inl l1), (2, .inl l2), (3, .inl l3)])) (st' := [.inr (.inl (σ7.2.2.1 40 0 ((12 * l1) + l3).toNatClampNeg)), .inl ((4 * l2) + l3), .inr (.inr (some (40, 0)))]) (σ' := σ7) (fun _ => rfl) hz ?_
    refine q_by h (fun hz h => ?_)
    refine q_ex_gb 1 (pc' := 123) (L' := (q_L [(0, .inr (.inr (some (24, 0)))), (1, .inl l1), (2, .inl l2), (3, .inl l3)])) (st' := []) (σ' := (q_sL σ7 40 0 (vp_updL (σ7.2.2.1 40 0) (((4 * l2) + l3).toNatClampNeg) (σ7.2.2.1 40 0 ((12 * l1) + l3).toNatClampNeg)))) (fun _ => rfl) hz ?_
    refine q_nm (G := fun τ => q_ex q_pr n _ 105 123 (q_L [(0, .inr (.inr (some (24, 0)))), (1, .inl l1), (2, .inl l2), (3, .inl l3)]) [] τ _) h (fun σ8 h => ?_)
    refine q_by h (fun hz h => ?_)
    refine q_ex_gb 15 (pc' := 143) (L' := (q_L [(0, .inr (.inr (some (24, 0)))), (1, .inl l1), (2, .inl l2), (3, .inl l3)])) (st' := [.inr (.inl (σ8.2.2.1 41 0 ((12 * l1) + l3).toNatClampNeg)), .inl ((4 * l2) + l3), .inr (.inr (some (41, 0)))]) (σ' := σ8) (fun _ => rfl) hz ?_
    refine q_by h (fun hz h => ?_)
    refine q_ex_gb 1 (pc' := 144) (L' := (q_L [(0, .inr (.inr (some (24, 0)))), (1, .inl l1), (2, .inl l2), (3, .inl l3)])) (st' := []) (σ' := (q_sL σ8 41 0 (vp_updL (σ8.2.2.1 41 0) (((4 * l2) + l3).toNatClampNeg) (σ8.2.2.1 41 0 ((12 * l1) + l3).toNatClampNeg)))) (fun _ => rfl) hz ?_
    refine q_nm (G := fun τ => q_ex q_pr n _ 105 144 (q_L [(0, .inr (.inr (some (24, 0)))), (1, .inl l1), (2, .inl l2), (3, .inl l3)]) [] τ _) h (fun σ9 h => ?_)
    refine q_ex_go 2 (pc' := 76) (L' := (q_s1 (q_L [(0, .inr (.inr (some (24, 0)))), (1, .inl l1), (2, .inl l2), (3, .inl l3)]) 3 (.inl (l3 + 1)))) (st' := []) (σ' := σ9) (fun _ => rfl) ?_
    exact q_ex_ll (hk76 h) ⟨rfl, rfl, rfl, rfl, trivial⟩
theorem M_order_L76_e {n : Nat} {r0 : (Int32) × J} (f : Nat) : ∀ {l1 : Int32} {l2 : Int32} {l3 : Int32} {σ : J}, M_order_L76 n f l1 l2 l3 σ = some r0 → q_ex q_pr n 2 105 76 (q_L [(0, .inr (.inr (some (24, 0)))), (1, .inl l1), (2, .inl l2), (3, .inl l3)]) [] σ (M_order_r r0) := by
  induction f with
  | zero => intro l1 l2 l3 σ h; cases h
  | succ f ih =>
    intro l1 l2 l3 σ h
    exact M_order_b76_e (f := f)  (fun h => ih h) h
theorem M_order_b40_e {n : Nat} {r0 : (Int32) × J} {f : Nat} {l1 : Int32} {s1 : Int32} {σ : J} (h : M_order_b40 n f l1 s1 σ = some r0) : q_ex q_pr n 2 105 40 (q_L [(0, .inr (.inr (some (24, 0)))), (1, .inl l1)]) [.inl s1, .inr (.inr (some (24, 0)))] σ (M_order_r r0) := by
  unfold M_order_b40 at h
  refine q_ex_go 1 (pc' := 43) (L' := (q_L [(0, .inr (.inr (some (24, 0)))), (1, .inl l1)])) (st' := []) (σ' := (q_sI σ 24 0 0 s1)) (fun _ => rfl) ?_
  refine q_nm (G := fun τ => q_ex q_pr n _ 105 43 (q_L [(0, .inr (.inr (some (24, 0)))), (1, .inl l1)]) [] τ _) h (fun σ4 h => ?_)
  refine q_ex_br 3 (c := (σ4.1 24 0 0) ≤ 0) (pc1 := 52) (pc2 := 50) (L' := (q_L [(0, .inr (.inr (some (24, 0)))), (1, .inl l1)])) (st' := []) (σ' := σ4) (fun _ => rfl) (fun hc => ?_) (fun hc => ?_)
  · rw [if_pos hc] at h
    refine q_by h (fun hz h => ?_)
    refine q_ex_gb 14 (pc' := 73) (L' := (q_s1 (q_L [(0, .inr (.inr (some (24, 0)))), (1, .inl l1)]) 2 (.inl (12 + (σ4.1 24 30 0))))) (st' := [.inl (σ4.2.1 38 0 (3 * l1).toNatClampNeg), .inl (12 + (σ4.1 24 30 0)), .inr (.inr (some (38, 0)))]) (σ' := σ4) (fun _ => rfl) hz ?_
    refine q_by h (fun hz h => ?_)
    refine q_ex_gb 1 (pc' := 74) (L' := (q_s1 (q_L [(0, .inr (.inr (some (24, 0)))), (1, .inl l1)]) 2 (.inl (12 + (σ4.1 24 30 0))))) (st' := []) (σ' := (q_sA σ4 38 0 (upd (σ4.2.1 38 0) ((12 + (σ4.1 24 30 0)).toNatClampNeg) (σ4.2.1 38 0 (3 * l1).toNatClampNeg)))) (fun _ => rfl) hz ?_
    refine q_nm (G := fun τ => q_ex q_pr n _ 105 74 (q_s1 (q_L [(0, .inr (.inr (some (24, 0)))), (1, .inl l1)]) 2 (.inl (12 + (σ4.1 24 30 0)))) [] τ _) h (fun σ5 h => ?_)
    refine q_ex_go 2 (pc' := 76) (L' := (q_s1 (q_s1 (q_L [(0, .inr (.inr (some (24, 0)))), (1, .inl l1)]) 2 (.inl (12 + (σ4.1 24 30 0)))) 3 (.inl 0))) (st' := []) (σ' := σ5) (fun _ => rfl) ?_
    exact q_ex_ll (M_order_L76_e f h) ⟨rfl, rfl, rfl, rfl, trivial⟩
  · rw [if_neg hc] at h
    refine q_ex_go 1 (pc' := 51) (L' := (q_L [(0, .inr (.inr (some (24, 0)))), (1, .inl l1)])) (st' := [.inl 0]) (σ' := σ4) (fun _ => rfl) ?_
    cases h
    exact ⟨1, rfl⟩
theorem M_order_b36_e {n : Nat} {r0 : (Int32) × J} {f : Nat} {l1 : Int32} {σ : J} (h : M_order_b36 n f l1 σ = some r0) : q_ex q_pr n 2 105 36 (q_L [(0, .inr (.inr (some (24, 0)))), (1, .inl l1)]) [.inr (.inr (some (24, 0)))] σ (M_order_r r0) := by
  unfold M_order_b36 at h
  refine q_ex_go 2 (pc' := 40) (L' := (q_L [(0, .inr (.inr (some (24, 0)))), (1, .inl l1)])) (st' := [.inl (σ.1 24 0 0), .inr (.inr (some (24, 0)))]) (σ' := σ) (fun _ => rfl) ?_
  exact q_ex_ll (M_order_b40_e h) ⟨rfl, rfl, trivial⟩
theorem M_order_b0_e {n : Nat} {r0 : (Int32) × J} {f : Nat} {l1 : Int32} {σ : J} (h : M_order_b0 n f l1 σ = some r0) : q_ex q_pr n 2 105 0 (q_L [(0, .inr (.inr (some (24, 0)))), (1, .inl l1)]) [] σ (M_order_r r0) := by
  unfold M_order_b0 at h
  obtain ⟨q1, hq1, h⟩ := Option.bind_eq_some_iff.mp h
  refine q_ex_ca 7 (k1 := 109) (vs := [.inr (.inr (some (24, 0))), .inl l1, .inl 1]) (pc' := 9) (L' := (q_L [(0, .inr (.inr (some (24, 0)))), (1, .inl l1)])) (rest := [.inl l1, .inr (.inr (some (24, 0))), .inr (.inr (some (24, 0)))]) (σ' := σ) (fun _ => rfl) (q_ex_dd (M_ready_e hq1) (Nat.le_of_ble_eq_true rfl)) rfl ?_
  obtain ⟨q2, hq2, h⟩ := Option.bind_eq_some_iff.mp h
  refine q_ex_ca 1 (k1 := 90) (vs := [.inr (.inr (some (24, 0))), .inl l1, .inl q1.1]) (pc' := 12) (L' := (q_L [(0, .inr (.inr (some (24, 0)))), (1, .inl l1)])) (rest := [.inr (.inr (some (24, 0)))]) (σ' := q1.2) (fun _ => rfl) (q_ex_dd (M_first_e hq2) (Nat.le_of_ble_eq_true rfl)) rfl ?_
  refine q_ex_go 1 (pc' := 15) (L' := (q_L [(0, .inr (.inr (some (24, 0)))), (1, .inl l1)])) (st' := []) (σ' := (q_sI q2.2 24 0 0 q2.1)) (fun _ => rfl) ?_
  refine q_nm (G := fun τ => q_ex q_pr n _ 105 15 (q_L [(0, .inr (.inr (some (24, 0)))), (1, .inl l1)]) [] τ _) h (fun σ3 h => ?_)
  refine q_ex_br 4 (c := (σ3.1 24 0 0) = 0) (pc1 := 23) (pc2 := 36) (L' := (q_L [(0, .inr (.inr (some (24, 0)))), (1, .inl l1)])) (st' := [.inr (.inr (some (24, 0)))]) (σ' := σ3) (fun _ => rfl) (fun hc => ?_) (fun hc => ?_)
  · rw [if_pos hc] at h
    refine q_ex_br 4 (c := (σ3.1 24 30 0) = 6) (pc1 := 32) (pc2 := 36) (L' := (q_L [(0, .inr (.inr (some (24, 0)))), (1, .inl l1)])) (st' := [.inr (.inr (some (24, 0)))]) (σ' := σ3) (fun _ => rfl) (fun hc => ?_) (fun hc => ?_)
    · rw [if_pos hc] at h
      refine q_ex_go 2 (pc' := 40) (L' := (q_L [(0, .inr (.inr (some (24, 0)))), (1, .inl l1)])) (st' := [.inl 4, .inr (.inr (some (24, 0)))]) (σ' := σ3) (fun _ => rfl) ?_
      exact q_ex_ll (M_order_b40_e h) ⟨rfl, rfl, trivial⟩
    · rw [if_neg hc] at h
      exact q_ex_ll (M_order_b36_e h) ⟨rfl, rfl, trivial⟩
  · rw [if_neg hc] at h
    exact q_ex_ll (M_order_b36_e h) ⟨rfl, rfl, trivial⟩
theorem M_order_e {n : Nat} {r0 : (Int32) × J} {f : Nat} {x1 : Int32} {σ : J} (h : M_order n f x1 σ = some r0) : q_ex q_pr n 2 105 0 (q_args 0 [.inr (.inr (some (24, 0))), .inl x1]) [] σ (M_order_r r0) := q_ex_ll (M_order_b0_e h) ⟨rfl, rfl, trivial⟩
def M_put_r : (Int32) × J → Res := fun q => (.inl (some (.inl q.1)), q.2)
-- 108: M_put
def M_put_b87 (n : Nat) (f : Nat) (s0 : Int32) (σ : J) : Option ((Int32) × J) := some (s0, σ)
def M_put_b67 (n : Nat) (f : Nat) (l1 : Int32) (l2 : Int32) (s1 : Int32) (σ : J) : Option ((Int32) × J) := q_bs (q_sI σ 24 0 0 s1) fun σ5 => if (σ5.1 24 0 0) ≤ 0 then (M_add n f l1 l2 σ5).bind fun q6 => M_put_b87 n f q6.1 q6.2 else M_put_b87 n f 0 σ5
def M_put_b63 (n : Nat) (f : Nat) (l1 : Int32) (l2 : Int32) (σ : J) : Option ((Int32) × J) := M_put_b67 n f l1 l2 (σ.1 24 0 0) σ
def M_put_b36 (n : Nat) (f : Nat) (l1 : Int32) (l2 : Int32) (s2 : Int32) (s3 : Int32) (σ : J) : Option ((Int32) × J) := (M_first n f s2 s3 σ).bind fun q3 => q_bs (q_sI q3.2 24 0 0 q3.1) fun σ4 => if (σ4.1 24 0 0) = 0 then if (σ4.1 24 1 0) = 20 then M_put_b67 n f l1 l2 4 σ4 else M_put_b63 n f l1 l2 σ4 else M_put_b63 n f l1 l2 σ4
def M_put_b35 (n : Nat) (f : Nat) (l1 : Int32) (l2 : Int32) (s2 : Int32) (σ : J) : Option ((Int32) × J) := M_put_b36 n f l1 l2 s2 0 σ
def M_put_b0 (n : Nat) (f : Nat) (l1 : Int32) (l2 : Int32) (σ : J) : Option ((Int32) × J) := (M_isSession n l1 σ).bind fun q1 => if q1.1 = 0 then M_put_b35 n f l1 l2 l1 q1.2 else if q_in l1 4 = true then if (q1.2.2.1 35 0 l1.toNatClampNeg) ≤ 0 then M_put_b35 n f l1 l2 l1 q1.2 else (M_within n l2.toInt64 1000 q1.2).bind fun q2 => if q2.1 = 0 then M_put_b35 n f l1 l2 l1 q2.2 else M_put_b36 n f l1 l2 l1 1 q2.2 else none
def M_put (n : Nat) (f : Nat) (x1 : Int32) (x2 : Int32) (σ : J) : Option ((Int32) × J) := M_put_b0 n f x1 x2 σ
theorem M_put_b87_e {n : Nat} {r0 : (Int32) × J} {f : Nat} {s0 : Int32} {σ : J} (h : M_put_b87 n f s0 σ = some r0) : q_ex q_pr n 7 108 87 (q_L []) [.inl s0] σ (M_put_r r0) := by
  unfold M_put_b87 at h
  cases h
  exact ⟨1, rfl⟩
theorem M_put_b67_e {n : Nat} {r0 : (Int32) × J} {f : Nat} {l1 : Int32} {l2 : Int32} {s1 : Int32} {σ : J} (h : M_put_b67 n f l1 l2 s1 σ = some r0) : q_ex q_pr n 7 108 67 (q_L [(0, .inr (.inr (some (24, 0)))), (1, .inl l1), (2, .inl l2)]) [.inl s1, .inr (.inr (some (24, 0)))] σ (M_put_r r0) := by
  unfold M_put_b67 at h
  refine q_ex_go 1 (pc' := 70) (L' := (q_L [(0, .inr (.inr (some (24, 0)))), (1, .inl l1), (2, .inl l2)])) (st' := []) (σ' := (q_sI σ 24 0 0 s1)) (fun _ => rfl) ?_
  refine q_nm (G := fun τ => q_ex q_pr n _ 108 70 (q_L [(0, .inr (.inr (some (24, 0)))), (1, .inl l1), (2, .inl l2)]) [] τ _) h (fun σ5 h => ?_)
  refine q_ex_br 3 (c := (σ5.1 24 0 0) ≤ 0) (pc1 := 81) (pc2 := 77) (L' := (q_L [(0, .inr (.inr (some (24, 0)))), (1, .inl l1), (2, .inl l2)])) (st' := []) (σ' := σ5) (fun _ => rfl) (fun hc => ?_) (fun hc => ?_)
  · rw [if_pos hc] at h
    obtain ⟨q6, hq6, h⟩ := Option.bind_eq_some_iff.mp h
    refine q_ex_ca 4 (k1 := 81) (vs := [.inr (.inr (some (24, 0))), .inl l1, .inl l2]) (pc' := 87) (L' := (q_L [(0, .inr (.inr (some (24, 0)))), (1, .inl l1), (2, .inl l2)])) (rest := []) (σ' := σ5) (fun _ => rfl) (q_ex_dd (M_add_e hq6) (Nat.le_of_ble_eq_true rfl)) rfl ?_
    exact q_ex_ll (M_put_b87_e h) trivial
  · rw [if_neg hc] at h
    refine q_ex_go 2 (pc' := 87) (L' := (q_L [(0, .inr (.inr (some (24, 0)))), (1, .inl l1), (2, .inl l2)])) (st' := [.inl 0]) (σ' := σ5) (fun _ => rfl) ?_
    exact q_ex_ll (M_put_b87_e h) trivial
theorem M_put_b63_e {n : Nat} {r0 : (Int32) × J} {f : Nat} {l1 : Int32} {l2 : Int32} {σ : J} (h : M_put_b63 n f l1 l2 σ = some r0) : q_ex q_pr n 7 108 63 (q_L [(0, .inr (.inr (some (24, 0)))), (1, .inl l1), (2, .inl l2)]) [.inr (.inr (some (24, 0)))] σ (M_put_r r0) := by
  unfold M_put_b63 at h
  refine q_ex_go 2 (pc' := 67) (L' := (q_L [(0, .inr (.inr (some (24, 0)))), (1, .inl l1), (2, .inl l2)])) (st' := [.inl (σ.1 24 0 0), .inr (.inr (some (24, 0)))]) (σ' := σ) (fun _ => rfl) ?_
  exact q_ex_ll (M_put_b67_e h) ⟨rfl, rfl, rfl, trivial⟩
theorem M_put_b36_e {n : Nat} {r0 : (Int32) × J} {f : Nat} {l1 : Int32} {l2 : Int32} {s2 : Int32} {s3 : Int32} {σ : J} (h : M_put_b36 n f l1 l2 s2 s3 σ = some r0) : q_ex q_pr n 7 108 36 (q_L [(0, .inr (.inr (some (24, 0)))), (1, .inl l1), (2, .inl l2)]) [.inl s3, .inl s2, .inr (.inr (some (24, 0))), .inr (.inr (some (24, 0)))] σ (M_put_r r0) := by
  unfold M_put_b36 at h
  obtain ⟨q3, hq3, h⟩ := Option.bind_eq_some_iff.mp h
  refine q_ex_ca 1 (k1 := 90) (vs := [.inr (.inr (some (24, 0))), .inl s2, .inl s3]) (pc' := 39) (L' := (q_L [(0, .inr (.inr (some (24, 0)))), (1, .inl l1), (2, .inl l2)])) (rest := [.inr (.inr (some (24, 0)))]) (σ' := σ) (fun _ => rfl) (q_ex_dd (M_first_e hq3) (Nat.le_of_ble_eq_true rfl)) rfl ?_
  refine q_ex_go 1 (pc' := 42) (L' := (q_L [(0, .inr (.inr (some (24, 0)))), (1, .inl l1), (2, .inl l2)])) (st' := []) (σ' := (q_sI q3.2 24 0 0 q3.1)) (fun _ => rfl) ?_
  refine q_nm (G := fun τ => q_ex q_pr n _ 108 42 (q_L [(0, .inr (.inr (some (24, 0)))), (1, .inl l1), (2, .inl l2)]) [] τ _) h (fun σ4 h => ?_)
  refine q_ex_br 4 (c := (σ4.1 24 0 0) = 0) (pc1 := 50) (pc2 := 63) (L' := (q_L [(0, .inr (.inr (some (24, 0)))), (1, .inl l1), (2, .inl l2)])) (st' := [.inr (.inr (some (24, 0)))]) (σ' := σ4) (fun _ => rfl) (fun hc => ?_) (fun hc => ?_)
  · rw [if_pos hc] at h
    refine q_ex_br 4 (c := (σ4.1 24 1 0) = 20) (pc1 := 59) (pc2 := 63) (L' := (q_L [(0, .inr (.inr (some (24, 0)))), (1, .inl l1), (2, .inl l2)])) (st' := [.inr (.inr (some (24, 0)))]) (σ' := σ4) (fun _ => rfl) (fun hc => ?_) (fun hc => ?_)
    · rw [if_pos hc] at h
      refine q_ex_go 2 (pc' := 67) (L' := (q_L [(0, .inr (.inr (some (24, 0)))), (1, .inl l1), (2, .inl l2)])) (st' := [.inl 4, .inr (.inr (some (24, 0)))]) (σ' := σ4) (fun _ => rfl) ?_
      exact q_ex_ll (M_put_b67_e h) ⟨rfl, rfl, rfl, trivial⟩
    · rw [if_neg hc] at h
      exact q_ex_ll (M_put_b63_e h) ⟨rfl, rfl, rfl, trivial⟩
  · rw [if_neg hc] at h
    exact q_ex_ll (M_put_b63_e h) ⟨rfl, rfl, rfl, trivial⟩
theorem M_put_b35_e {n : Nat} {r0 : (Int32) × J} {f : Nat} {l1 : Int32} {l2 : Int32} {s2 : Int32} {σ : J} (h : M_put_b35 n f l1 l2 s2 σ = some r0) : q_ex q_pr n 7 108 35 (q_L [(0, .inr (.inr (some (24, 0)))), (1, .inl l1), (2, .inl l2)]) [.inl s2, .inr (.inr (some (24, 0))), .inr (.inr (some (24, 0)))] σ (M_put_r r0) := by
  unfold M_put_b35 at h
  refine q_ex_go 1 (pc' := 36) (L' := (q_L [(0, .inr (.inr (some (24, 0)))), (1, .inl l1), (2, .inl l2)])) (st' := [.inl 0, .inl s2, .inr (.inr (some (24, 0))), .inr (.inr (some (24, 0)))]) (σ' := σ) (fun _ => rfl) ?_
  exact q_ex_ll (M_put_b36_e h) ⟨rfl, rfl, rfl, trivial⟩
theorem M_put_b0_e {n : Nat} {r0 : (Int32) × J} {f : Nat} {l1 : Int32} {l2 : Int32} {σ : J} (h : M_put_b0 n f l1 l2 σ = some r0) : q_ex q_pr n 7 108 0 (q_L [(0, .inr (.inr (some (24, 0)))), (1, .inl l1), (2, .inl l2)]) [] σ (M_put_r r0) := by
  unfold M_put_b0 at h
  obtain ⟨q1, hq1, h⟩ := Option.bind_eq_some_iff.mp h
  refine q_ex_ca 6 (k1 := 98) (vs := [.inr (.inr (some (24, 0))), .inl l1]) (pc' := 8) (L' := (q_L [(0, .inr (.inr (some (24, 0)))), (1, .inl l1), (2, .inl l2)])) (rest := [.inl l1, .inr (.inr (some (24, 0))), .inr (.inr (some (24, 0)))]) (σ' := σ) (fun _ => rfl) (q_ex_dd (M_isSession_e hq1) (Nat.le_of_ble_eq_true rfl)) rfl ?_
  refine q_ex_br 1 (c := q1.1 = 0) (pc1 := 35) (pc2 := 11) (L' := (q_L [(0, .inr (.inr (some (24, 0)))), (1, .inl l1), (2, .inl l2)])) (st' := [.inl l1, .inr (.inr (some (24, 0))), .inr (.inr (some (24, 0)))]) (σ' := q1.2) (fun _ => rfl) (fun hc => ?_) (fun hc => ?_)
  · rw [if_pos hc] at h
    exact q_ex_ll (M_put_b35_e h) ⟨rfl, rfl, rfl, trivial⟩
  · rw [if_neg hc] at h
    refine q_by h (fun hz h => ?_)
    refine q_ex_gb 4 (pc' := 17) (L' := (q_L [(0, .inr (.inr (some (24, 0)))), (1, .inl l1), (2, .inl l2)])) (st' := [.inl (q1.2.2.1 35 0 l1.toNatClampNeg), .inl l1, .inr (.inr (some (24, 0))), .inr (.inr (some (24, 0)))]) (σ' := q1.2) (fun _ => rfl) hz ?_
    refine q_ex_br 1 (c := (q1.2.2.1 35 0 l1.toNatClampNeg) ≤ 0) (pc1 := 35) (pc2 := 20) (L' := (q_L [(0, .inr (.inr (some (24, 0)))), (1, .inl l1), (2, .inl l2)])) (st' := [.inl l1, .inr (.inr (some (24, 0))), .inr (.inr (some (24, 0)))]) (σ' := q1.2) (fun _ => rfl) (fun hc => ?_) (fun hc => ?_)
    · rw [if_pos hc] at h
      exact q_ex_ll (M_put_b35_e h) ⟨rfl, rfl, rfl, trivial⟩
    · rw [if_neg hc] at h
      obtain ⟨q2, hq2, h⟩ := Option.bind_eq_some_iff.mp h
      refine q_ex_ca 4 (k1 := 122) (vs := [.inr (.inl l2.toInt64), .inr (.inl 1000)]) (pc' := 28) (L' := (q_L [(0, .inr (.inr (some (24, 0)))), (1, .inl l1), (2, .inl l2)])) (rest := [.inl l1, .inr (.inr (some (24, 0))), .inr (.inr (some (24, 0)))]) (σ' := q1.2) (fun _ => rfl) (q_ex_dd (M_within_e hq2) (Nat.le_of_ble_eq_true rfl)) rfl ?_
      refine q_ex_br 1 (c := q2.1 = 0) (pc1 := 35) (pc2 := 31) (L' := (q_L [(0, .inr (.inr (some (24, 0)))), (1, .inl l1), (2, .inl l2)])) (st' := [.inl l1, .inr (.inr (some (24, 0))), .inr (.inr (some (24, 0)))]) (σ' := q2.2) (fun _ => rfl) (fun hc => ?_) (fun hc => ?_)
      · rw [if_pos hc] at h
        exact q_ex_ll (M_put_b35_e h) ⟨rfl, rfl, rfl, trivial⟩
      · rw [if_neg hc] at h
        refine q_ex_go 2 (pc' := 36) (L' := (q_L [(0, .inr (.inr (some (24, 0)))), (1, .inl l1), (2, .inl l2)])) (st' := [.inl 1, .inl l1, .inr (.inr (some (24, 0))), .inr (.inr (some (24, 0)))]) (σ' := q2.2) (fun _ => rfl) ?_
        exact q_ex_ll (M_put_b36_e h) ⟨rfl, rfl, rfl, trivial⟩
theorem M_put_e {n : Nat} {r0 : (Int32) × J} {f : Nat} {x1 : Int32} {x2 : Int32} {σ : J} (h : M_put n f x1 x2 σ = some r0) : q_ex q_pr n 7 108 0 (q_args 0 [.inr (.inr (some (24, 0))), .inl x1, .inl x2]) [] σ (M_put_r r0) := q_ex_ll (M_put_b0_e h) ⟨rfl, rfl, rfl, trivial⟩
def M_renew_r : (Int32) × J → Res := fun q => (.inl (some (.inl q.1)), q.2)
-- 111: M_renew
def M_renew_b48 (n : Nat) (f : Nat) (σ : J) : Option ((Int32) × J) := if (0 : Int32) &&& 1 = 0 then some (0, σ) else none
def M_renew_b70 (n : Nat) (f : Nat) (s1 : Int32) (s2 : Int32) (σ : J) : Option ((Int32) × J) := if q_in s1 20 = true then q_bs (q_sA σ 27 0 (upd (σ.2.1 27 0) s1.toNatClampNeg s2)) fun σ6 => if (1 : Int32) &&& 1 = 1 then some (1, σ6) else none else none
def M_renew_b0 (n : Nat) (f : Nat) (l1 : Int32) (l2 : Int32) (l3 : Int32) (σ : J) : Option ((Int32) × J) := (M_within n l3.toInt64 1000 σ).bind fun q1 => (M_first n f l1 q1.1 q1.2).bind fun q2 => q_bs (q_sI q2.2 24 0 0 q2.1) fun σ3 => if (σ3.1 24 0 0) ≤ 0 then (M_place n f l2 σ3).bind fun q4 => if q4.1 < 0 then M_renew_b48 n f q4.2 else (M_sees n l1 q4.1 q4.2).bind fun q5 => if q5.1 = 0 then M_renew_b48 n f q5.2 else if l3 = 0 then M_renew_b70 n f q4.1 0 q5.2 else M_renew_b70 n f q4.1 ((q5.2.1 24 3 0) + l3) q5.2 else if (0 : Int32) &&& 1 = 0 then some (0, σ3) else none
def M_renew (n : Nat) (f : Nat) (x1 : Int32) (x2 : Int32) (x3 : Int32) (σ : J) : Option ((Int32) × J) := M_renew_b0 n f x1 x2 x3 σ
theorem M_renew_b48_e {n : Nat} {r0 : (Int32) × J} {f : Nat} {σ : J} (h : M_renew_b48 n f σ = some r0) : q_ex q_pr n 2 111 48 (q_L []) [] σ (M_renew_r r0) := by
  unfold M_renew_b48 at h
  refine q_ex_go 1 (pc' := 49) (L' := (q_L [])) (st' := [.inl 0]) (σ' := σ) (fun _ => rfl) ?_
  refine q_by h (fun hz h => ?_)
  cases h
  exact ⟨1, if_pos (e := (none : Option Res)) hz⟩
theorem M_renew_b70_e {n : Nat} {r0 : (Int32) × J} {f : Nat} {s1 : Int32} {s2 : Int32} {σ : J} (h : M_renew_b70 n f s1 s2 σ = some r0) : q_ex q_pr n 2 111 70 (q_L []) [.inl s2, .inl s1, .inr (.inr (some (27, 0)))] σ (M_renew_r r0) := by
  unfold M_renew_b70 at h
  refine q_by h (fun hz h => ?_)
  refine q_ex_gb 1 (pc' := 71) (L' := (q_L [])) (st' := []) (σ' := (q_sA σ 27 0 (upd (σ.2.1 27 0) s1.toNatClampNeg s2))) (fun _ => rfl) hz ?_
  refine q_nm (G := fun τ => q_ex q_pr n _ 111 71 (q_L []) [] τ _) h (fun σ6 h => ?_)
  refine q_ex_go 1 (pc' := 72) (L' := (q_L [])) (st' := [.inl 1]) (σ' := σ6) (fun _ => rfl) ?_
  refine q_by h (fun hz h => ?_)
  cases h
  exact ⟨1, if_pos (e := (none : Option Res)) hz⟩
theorem M_renew_b0_e {n : Nat} {r0 : (Int32) × J} {f : Nat} {l1 : Int32} {l2 : Int32} {l3 : Int32} {σ : J} (h : M_renew_b0 n f l1 l2 l3 σ = some r0) : q_ex q_pr n 2 111 0 (q_L [(0, .inr (.inr (some (24, 0)))), (1, .inl l1), (2, .inl l2), (3, .inl l3)]) [] σ (M_renew_r r0) := by
  unfold M_renew_b0 at h
  obtain ⟨q1, hq1, h⟩ := Option.bind_eq_some_iff.mp h
  refine q_ex_ca 7 (k1 := 122) (vs := [.inr (.inl l3.toInt64), .inr (.inl 1000)]) (pc' := 11) (L' := (q_L [(0, .inr (.inr (some (24, 0)))), (1, .inl l1), (2, .inl l2), (3, .inl l3)])) (rest := [.inl l1, .inr (.inr (some (24, 0))), .inr (.inr (some (24, 0)))]) (σ' := σ) (fun _ => rfl) (q_ex_dd (M_within_e hq1) (Nat.le_of_ble_eq_true rfl)) rfl ?_
  obtain ⟨q2, hq2, h⟩ := Option.bind_eq_some_iff.mp h
  refine q_ex_ca 1 (k1 := 90) (vs := [.inr (.inr (some (24, 0))), .inl l1, .inl q1.1]) (pc' := 14) (L' := (q_L [(0, .inr (.inr (some (24, 0)))), (1, .inl l1), (2, .inl l2), (3, .inl l3)])) (rest := [.inr (.inr (some (24, 0)))]) (σ' := q1.2) (fun _ => rfl) (q_ex_dd (M_first_e hq2) (Nat.le_of_ble_eq_true rfl)) rfl ?_
  refine q_ex_go 1 (pc' := 17) (L' := (q_L [(0, .inr (.inr (some (24, 0)))), (1, .inl l1), (2, .inl l2), (3, .inl l3)])) (st' := []) (σ' := (q_sI q2.2 24 0 0 q2.1)) (fun _ => rfl) ?_
  refine q_nm (G := fun τ => q_ex q_pr n _ 111 17 (q_L [(0, .inr (.inr (some (24, 0)))), (1, .inl l1), (2, .inl l2), (3, .inl l3)]) [] τ _) h (fun σ3 h => ?_)
  refine q_ex_br 3 (c := (σ3.1 24 0 0) ≤ 0) (pc1 := 26) (pc2 := 24) (L' := (q_L [(0, .inr (.inr (some (24, 0)))), (1, .inl l1), (2, .inl l2), (3, .inl l3)])) (st' := []) (σ' := σ3) (fun _ => rfl) (fun hc => ?_) (fun hc => ?_)
  · rw [if_pos hc] at h
    obtain ⟨q4, hq4, h⟩ := Option.bind_eq_some_iff.mp h
    refine q_ex_ca 3 (k1 := 107) (vs := [.inr (.inr (some (24, 0))), .inl l2]) (pc' := 31) (L' := (q_L [(0, .inr (.inr (some (24, 0)))), (1, .inl l1), (2, .inl l2), (3, .inl l3)])) (rest := []) (σ' := σ3) (fun _ => rfl) (q_ex_dd (M_place_e hq4) (Nat.le_of_ble_eq_true rfl)) rfl ?_
    refine q_ex_br 3 (c := q4.1 < 0) (pc1 := 48) (pc2 := 38) (L' := (q_s1 (q_L [(0, .inr (.inr (some (24, 0)))), (1, .inl l1), (2, .inl l2), (3, .inl l3)]) 4 (.inl q4.1))) (st' := []) (σ' := q4.2) (fun _ => rfl) (fun hc => ?_) (fun hc => ?_)
    · rw [if_pos hc] at h
      exact q_ex_ll (M_renew_b48_e h) trivial
    · rw [if_neg hc] at h
      obtain ⟨q5, hq5, h⟩ := Option.bind_eq_some_iff.mp h
      refine q_ex_ca 4 (k1 := 114) (vs := [.inr (.inr (some (24, 0))), .inl l1, .inl q4.1]) (pc' := 45) (L' := (q_s1 (q_L [(0, .inr (.inr (some (24, 0)))), (1, .inl l1), (2, .inl l2), (3, .inl l3)]) 4 (.inl q4.1))) (rest := []) (σ' := q4.2) (fun _ => rfl) (q_ex_dd (M_sees_e hq5) (Nat.le_of_ble_eq_true rfl)) rfl ?_
      refine q_ex_br 1 (c := q5.1 = 0) (pc1 := 48) (pc2 := 50) (L' := (q_s1 (q_L [(0, .inr (.inr (some (24, 0)))), (1, .inl l1), (2, .inl l2), (3, .inl l3)]) 4 (.inl q4.1))) (st' := []) (σ' := q5.2) (fun _ => rfl) (fun hc => ?_) (fun hc => ?_)
      · rw [if_pos hc] at h
        exact q_ex_ll (M_renew_b48_e h) trivial
      · rw [if_neg hc] at h
        refine q_ex_br 5 (c := l3 = 0) (pc1 := 60) (pc2 := 64) (L' := (q_s1 (q_L [(0, .inr (.inr (some (24, 0)))), (1, .inl l1), (2, .inl l2), (3, .inl l3)]) 4 (.inl q4.1))) (st' := [.inl q4.1, .inr (.inr (some (27, 0)))]) (σ' := q5.2) (fun _ => rfl) (fun hc => ?_) (fun hc => ?_)
        · rw [if_pos hc] at h
          refine q_ex_go 2 (pc' := 70) (L' := (q_s1 (q_L [(0, .inr (.inr (some (24, 0)))), (1, .inl l1), (2, .inl l2), (3, .inl l3)]) 4 (.inl q4.1))) (st' := [.inl 0, .inl q4.1, .inr (.inr (some (27, 0)))]) (σ' := q5.2) (fun _ => rfl) ?_
          exact q_ex_ll (M_renew_b70_e h) trivial
        · rw [if_neg hc] at h
          refine q_ex_go 4 (pc' := 70) (L' := (q_s1 (q_L [(0, .inr (.inr (some (24, 0)))), (1, .inl l1), (2, .inl l2), (3, .inl l3)]) 4 (.inl q4.1))) (st' := [.inl ((q5.2.1 24 3 0) + l3), .inl q4.1, .inr (.inr (some (27, 0)))]) (σ' := q5.2) (fun _ => rfl) ?_
          exact q_ex_ll (M_renew_b70_e h) trivial
  · rw [if_neg hc] at h
    refine q_ex_go 1 (pc' := 25) (L' := (q_L [(0, .inr (.inr (some (24, 0)))), (1, .inl l1), (2, .inl l2), (3, .inl l3)])) (st' := [.inl 0]) (σ' := σ3) (fun _ => rfl) ?_
    refine q_by h (fun hz h => ?_)
    cases h
    exact ⟨1, if_pos (e := (none : Option Res)) hz⟩
theorem M_renew_e {n : Nat} {r0 : (Int32) × J} {f : Nat} {x1 : Int32} {x2 : Int32} {x3 : Int32} {σ : J} (h : M_renew n f x1 x2 x3 σ = some r0) : q_ex q_pr n 2 111 0 (q_args 0 [.inr (.inr (some (24, 0))), .inl x1, .inl x2, .inl x3]) [] σ (M_renew_r r0) := q_ex_ll (M_renew_b0_e h) ⟨rfl, rfl, rfl, rfl, trivial⟩
def M_seen_r : (Int32) × J → Res := fun q => (.inl (some (.inl q.1)), q.2)
-- 113: M_seen
def M_seen_b68 (n : Nat) (k31 : Int32 → Int32 → Int32 → J → Option ((Int32) × J)) (f : Nat) (l1 : Int32) (l3 : Int32) (l4 : Int32) (σ : J) : Option ((Int32) × J) := k31 l1 l3 (l4 + 1) σ
def M_seen_b31 (n : Nat) (k31 : Int32 → Int32 → Int32 → J → Option ((Int32) × J)) (f : Nat) (l1 : Int32) (l3 : Int32) (l4 : Int32) (σ : J) : Option ((Int32) × J) := if (σ.1 24 1 0) ≤ l4 then some ((-1), σ) else (M_sees n l1 l4 σ).bind fun q3 => if q3.1 = 0 then M_seen_b68 n k31 f l1 l3 l4 q3.2 else if l3 = 0 then if q_in l4 20 = true then some (q3.2.2.1 25 0 l4.toNatClampNeg, q3.2) else none else M_seen_b68 n k31 f l1 (l3 + (-1)) l4 q3.2
def M_seen_L31 (n : Nat) : Nat → Int32 → Int32 → Int32 → J → Option ((Int32) × J)
  | 0 => fun _ _ _ _ => none
  | f + 1 => fun l1 l3 l4 σ => M_seen_b31 n (M_seen_L31 n f) f l1 l3 l4 σ
def M_seen_b14 (n : Nat) (f : Nat) (l1 : Int32) (l2 : Int32) (s1 : Int32) (σ : J) : Option ((Int32) × J) := q_bs (q_sI σ 24 0 0 s1) fun σ2 => if (σ2.1 24 0 0) ≤ 0 then M_seen_L31 n f l1 l2 0 σ2 else some (0, σ2)
def M_seen_b0 (n : Nat) (f : Nat) (l1 : Int32) (l2 : Int32) (σ : J) : Option ((Int32) × J) := (M_isSession n l1 σ).bind fun q1 => if q1.1 = 0 then M_seen_b14 n f l1 l2 1 q1.2 else M_seen_b14 n f l1 l2 0 q1.2
def M_seen (n : Nat) (f : Nat) (x1 : Int32) (x2 : Int32) (σ : J) : Option ((Int32) × J) := M_seen_b0 n f x1 x2 σ
theorem M_seen_b68_e {n : Nat} {r0 : (Int32) × J} {k31 : Int32 → Int32 → Int32 → J → Option ((Int32) × J)} {f : Nat} {l1 : Int32} {l3 : Int32} {l4 : Int32} {σ : J} (hk31 : ∀ {l1 : Int32} {l3 : Int32} {l4 : Int32} {σ : J}, k31 l1 l3 l4 σ = some r0 → q_ex q_pr n 1 113 31 (q_L [(0, .inr (.inr (some (24, 0)))), (1, .inl l1), (3, .inl l3), (4, .inl l4)]) [] σ (M_seen_r r0)) (h : M_seen_b68 n k31 f l1 l3 l4 σ = some r0) : q_ex q_pr n 1 113 68 (q_L [(0, .inr (.inr (some (24, 0)))), (1, .inl l1), (3, .inl l3), (4, .inl l4)]) [] σ (M_seen_r r0) := by
  unfold M_seen_b68 at h
  refine q_ex_go 2 (pc' := 31) (L' := (q_s1 (q_L [(0, .inr (.inr (some (24, 0)))), (1, .inl l1), (3, .inl l3), (4, .inl l4)]) 4 (.inl (l4 + 1)))) (st' := []) (σ' := σ) (fun _ => rfl) ?_
  exact q_ex_ll (hk31 h) ⟨rfl, rfl, rfl, rfl, trivial⟩
theorem M_seen_b31_e {n : Nat} {r0 : (Int32) × J} {k31 : Int32 → Int32 → Int32 → J → Option ((Int32) × J)} {f : Nat} {l1 : Int32} {l3 : Int32} {l4 : Int32} {σ : J} (hk31 : ∀ {l1 : Int32} {l3 : Int32} {l4 : Int32} {σ : J}, k31 l1 l3 l4 σ = some r0 → q_ex q_pr n 1 113 31 (q_L [(0, .inr (.inr (some (24, 0)))), (1, .inl l1), (3, .inl l3), (4, .inl l4)]) [] σ (M_seen_r r0)) (h : M_seen_b31 n k31 f l1 l3 l4 σ = some r0) : q_ex q_pr n 1 113 31 (q_L [(0, .inr (.inr (some (24, 0)))), (1, .inl l1), (3, .inl l3), (4, .inl l4)]) [] σ (M_seen_r r0) := by
  unfold M_seen_b31 at h
  refine q_ex_br 4 (c := (σ.1 24 1 0) ≤ l4) (pc1 := 74) (pc2 := 40) (L' := (q_L [(0, .inr (.inr (some (24, 0)))), (1, .inl l1), (3, .inl l3), (4, .inl l4)])) (st' := []) (σ' := σ) (fun _ => rfl) (fun hc => ?_) (fun hc => ?_)
  · rw [if_pos hc] at h
    refine q_ex_go 1 (pc' := 75) (L' := (q_L [(0, .inr (.inr (some (24, 0)))), (1, .inl l1), (3, .inl l3), (4, .inl l4)])) (st' := [.inl (-1)]) (σ' := σ) (fun _ => rfl) ?_
    cases h
    exact ⟨1, rfl⟩
  · rw [if_neg hc] at h
    obtain ⟨q3, hq3, h⟩ := Option.bind_eq_some_iff.mp h
    refine q_ex_ca 4 (k1 := 114) (vs := [.inr (.inr (some (24, 0))), .inl l1, .inl l4]) (pc' := 47) (L' := (q_L [(0, .inr (.inr (some (24, 0)))), (1, .inl l1), (3, .inl l3), (4, .inl l4)])) (rest := []) (σ' := σ) (fun _ => rfl) (q_ex_dd (M_sees_e hq3) (Nat.le_of_ble_eq_true rfl)) rfl ?_
    refine q_ex_br 1 (c := q3.1 = 0) (pc1 := 50) (pc2 := 53) (L' := (q_L [(0, .inr (.inr (some (24, 0)))), (1, .inl l1), (3, .inl l3), (4, .inl l4)])) (st' := []) (σ' := q3.2) (fun _ => rfl) (fun hc => ?_) (fun hc => ?_)
    · rw [if_pos hc] at h
      refine q_ex_go 1 (pc' := 68) (L' := (q_L [(0, .inr (.inr (some (24, 0)))), (1, .inl l1), (3, .inl l3), (4, .inl l4)])) (st' := []) (σ' := q3.2) (fun _ => rfl) ?_
      exact q_ex_ll (M_seen_b68_e hk31 h) ⟨rfl, rfl, rfl, rfl, trivial⟩
    · rw [if_neg hc] at h
      refine q_ex_br 2 (c := l3 = 0) (pc1 := 57) (pc2 := 65) (L' := (q_L [(0, .inr (.inr (some (24, 0)))), (1, .inl l1), (3, .inl l3), (4, .inl l4)])) (st' := []) (σ' := q3.2) (fun _ => rfl) (fun hc => ?_) (fun hc => ?_)
      · rw [if_pos hc] at h
        refine q_by h (fun hz h => ?_)
        refine q_ex_gb 4 (pc' := 64) (L' := (q_L [(0, .inr (.inr (some (24, 0)))), (1, .inl l1), (3, .inl l3), (4, .inl l4)])) (st' := [.inl (q3.2.2.1 25 0 l4.toNatClampNeg)]) (σ' := q3.2) (fun _ => rfl) hz ?_
        cases h
        exact ⟨1, rfl⟩
      · rw [if_neg hc] at h
        refine q_ex_go 1 (pc' := 68) (L' := (q_s1 (q_L [(0, .inr (.inr (some (24, 0)))), (1, .inl l1), (3, .inl l3), (4, .inl l4)]) 3 (.inl (l3 + (-1))))) (st' := []) (σ' := q3.2) (fun _ => rfl) ?_
        exact q_ex_ll (M_seen_b68_e hk31 h) ⟨rfl, rfl, rfl, rfl, trivial⟩
theorem M_seen_L31_e {n : Nat} {r0 : (Int32) × J} (f : Nat) : ∀ {l1 : Int32} {l3 : Int32} {l4 : Int32} {σ : J}, M_seen_L31 n f l1 l3 l4 σ = some r0 → q_ex q_pr n 1 113 31 (q_L [(0, .inr (.inr (some (24, 0)))), (1, .inl l1), (3, .inl l3), (4, .inl l4)]) [] σ (M_seen_r r0) := by
  induction f with
  | zero => intro l1 l3 l4 σ h; cases h
  | succ f ih =>
    intro l1 l3 l4 σ h
    exact M_seen_b31_e (f := f)  (fun h => ih h) h
theorem M_seen_b14_e {n : Nat} {r0 : (Int32) × J} {f : Nat} {l1 : Int32} {l2 : Int32} {s1 : Int32} {σ : J} (h : M_seen_b14 n f l1 l2 s1 σ = some r0) : q_ex q_pr n 1 113 14 (q_L [(0, .inr (.inr (some (24, 0)))), (1, .inl l1), (2, .inl l2)]) [.inl s1, .inr (.inr (some (24, 0)))] σ (M_seen_r r0) := by
  unfold M_seen_b14 at h
  refine q_ex_go 1 (pc' := 17) (L' := (q_L [(0, .inr (.inr (some (24, 0)))), (1, .inl l1), (2, .inl l2)])) (st' := []) (σ' := (q_sI σ 24 0 0 s1)) (fun _ => rfl) ?_
  refine q_nm (G := fun τ => q_ex q_pr n _ 113 17 (q_L [(0, .inr (.inr (some (24, 0)))), (1, .inl l1), (2, .inl l2)]) [] τ _) h (fun σ2 h => ?_)
  refine q_ex_br 3 (c := (σ2.1 24 0 0) ≤ 0) (pc1 := 26) (pc2 := 24) (L' := (q_L [(0, .inr (.inr (some (24, 0)))), (1, .inl l1), (2, .inl l2)])) (st' := []) (σ' := σ2) (fun _ => rfl) (fun hc => ?_) (fun hc => ?_)
  · rw [if_pos hc] at h
    refine q_ex_go 4 (pc' := 31) (L' := (q_s1 (q_s1 (q_L [(0, .inr (.inr (some (24, 0)))), (1, .inl l1), (2, .inl l2)]) 3 (.inl l2)) 4 (.inl 0))) (st' := []) (σ' := σ2) (fun _ => rfl) ?_
    exact q_ex_ll (M_seen_L31_e f h) ⟨rfl, rfl, rfl, rfl, trivial⟩
  · rw [if_neg hc] at h
    refine q_ex_go 1 (pc' := 25) (L' := (q_L [(0, .inr (.inr (some (24, 0)))), (1, .inl l1), (2, .inl l2)])) (st' := [.inl 0]) (σ' := σ2) (fun _ => rfl) ?_
    cases h
    exact ⟨1, rfl⟩
theorem M_seen_b0_e {n : Nat} {r0 : (Int32) × J} {f : Nat} {l1 : Int32} {l2 : Int32} {σ : J} (h : M_seen_b0 n f l1 l2 σ = some r0) : q_ex q_pr n 1 113 0 (q_L [(0, .inr (.inr (some (24, 0)))), (1, .inl l1), (2, .inl l2)]) [] σ (M_seen_r r0) := by
  unfold M_seen_b0 at h
  obtain ⟨q1, hq1, h⟩ := Option.bind_eq_some_iff.mp h
  refine q_ex_ca 4 (k1 := 98) (vs := [.inr (.inr (some (24, 0))), .inl l1]) (pc' := 6) (L' := (q_L [(0, .inr (.inr (some (24, 0)))), (1, .inl l1), (2, .inl l2)])) (rest := [.inr (.inr (some (24, 0)))]) (σ' := σ) (fun _ => rfl) (q_ex_dd (M_isSession_e hq1) (Nat.le_of_ble_eq_true rfl)) rfl ?_
  refine q_ex_br 1 (c := q1.1 = 0) (pc1 := 13) (pc2 := 9) (L' := (q_L [(0, .inr (.inr (some (24, 0)))), (1, .inl l1), (2, .inl l2)])) (st' := [.inr (.inr (some (24, 0)))]) (σ' := q1.2) (fun _ => rfl) (fun hc => ?_) (fun hc => ?_)
  · rw [if_pos hc] at h
    refine q_ex_go 1 (pc' := 14) (L' := (q_L [(0, .inr (.inr (some (24, 0)))), (1, .inl l1), (2, .inl l2)])) (st' := [.inl 1, .inr (.inr (some (24, 0)))]) (σ' := q1.2) (fun _ => rfl) ?_
    exact q_ex_ll (M_seen_b14_e h) ⟨rfl, rfl, rfl, trivial⟩
  · rw [if_neg hc] at h
    refine q_ex_go 2 (pc' := 14) (L' := (q_L [(0, .inr (.inr (some (24, 0)))), (1, .inl l1), (2, .inl l2)])) (st' := [.inl 0, .inr (.inr (some (24, 0)))]) (σ' := q1.2) (fun _ => rfl) ?_
    exact q_ex_ll (M_seen_b14_e h) ⟨rfl, rfl, rfl, trivial⟩
theorem M_seen_e {n : Nat} {r0 : (Int32) × J} {f : Nat} {x1 : Int32} {x2 : Int32} {σ : J} (h : M_seen n f x1 x2 σ = some r0) : q_ex q_pr n 1 113 0 (q_args 0 [.inr (.inr (some (24, 0))), .inl x1, .inl x2]) [] σ (M_seen_r r0) := q_ex_ll (M_seen_b0_e h) ⟨rfl, rfl, rfl, trivial⟩
def M_session_r : (Int32) × J → Res := fun q => (.inl (some (.inl q.1)), q.2)
-- 116: M_session
def M_session_b86 (n : Nat) (f : Nat) (s0 : Int32) (σ : J) : Option ((Int32) × J) := some (s0, σ)
def M_session_b101 (n : Nat) (f : Nat) (l1 : Int32) (l2 : Int32) (σ : J) : Option ((Int32) × J) := if q_in (((3 * l1) + l2) - 3) 18 = true then some (σ.2.1 38 0 (((3 * l1) + l2) - 3).toNatClampNeg, σ) else none
def M_session_b14 (n : Nat) (f : Nat) (l1 : Int32) (l2 : Int32) (s1 : Int32) (σ : J) : Option ((Int32) × J) := q_bs (q_sI σ 24 0 0 s1) fun σ2 => if (σ2.1 24 0 0) ≤ 0 then if l2 = Int32.ofNat 0 then (M_standing n f l1 σ2).bind fun q3 => if q3.1 < 0 then if q_in l1 4 = true then M_session_b86 n f (q3.2.2.1 45 0 l1.toNatClampNeg) q3.2 else none else M_session_b86 n f 1 q3.2 else if l2 = Int32.ofNat 1 then if q_in l1 4 = true then some (σ2.2.1 34 0 l1.toNatClampNeg, σ2) else none else if l2 = Int32.ofNat 2 then if q_in l1 4 = true then some (σ2.2.1 35 0 l1.toNatClampNeg, σ2) else none else if l2 = Int32.ofNat 3 then M_session_b101 n f l1 l2 σ2 else if l2 = Int32.ofNat 4 then M_session_b101 n f l1 l2 σ2 else if l2 = Int32.ofNat 5 then M_session_b101 n f l1 l2 σ2 else if l2 = Int32.ofNat 6 then (M_standing n f l1 σ2).bind fun q4 => some (q4.1, q4.2) else some ((-1), σ2) else some (0, σ2)
def M_session_b0 (n : Nat) (f : Nat) (l1 : Int32) (l2 : Int32) (σ : J) : Option ((Int32) × J) := (M_isSession n l1 σ).bind fun q1 => if q1.1 = 0 then M_session_b14 n f l1 l2 1 q1.2 else M_session_b14 n f l1 l2 0 q1.2
def M_session (n : Nat) (f : Nat) (x1 : Int32) (x2 : Int32) (σ : J) : Option ((Int32) × J) := M_session_b0 n f x1 x2 σ
theorem M_session_b86_e {n : Nat} {r0 : (Int32) × J} {f : Nat} {s0 : Int32} {σ : J} (h : M_session_b86 n f s0 σ = some r0) : q_ex q_pr n 1 116 86 (q_L []) [.inl s0] σ (M_session_r r0) := by
  unfold M_session_b86 at h
  cases h
  exact ⟨1, rfl⟩
theorem M_session_b101_e {n : Nat} {r0 : (Int32) × J} {f : Nat} {l1 : Int32} {l2 : Int32} {σ : J} (h : M_session_b101 n f l1 l2 σ = some r0) : q_ex q_pr n 1 116 101 (q_L [(0, .inr (.inr (some (24, 0)))), (1, .inl l1), (2, .inl l2)]) [] σ (M_session_r r0) := by
  unfold M_session_b101 at h
  refine q_by h (fun hz h => ?_)
  refine q_ex_gb 10 (pc' := 113) (L' := (q_L [(0, .inr (.inr (some (24, 0)))), (1, .inl l1), (2, .inl l2)])) (st' := [.inl (σ.2.1 38 0 (((3 * l1) + l2) - 3).toNatClampNeg)]) (σ' := σ) (fun _ => rfl) hz ?_
  cases h
  exact ⟨1, rfl⟩
theorem M_session_b14_e {n : Nat} {r0 : (Int32) × J} {f : Nat} {l1 : Int32} {l2 : Int32} {s1 : Int32} {σ : J} (h : M_session_b14 n f l1 l2 s1 σ = some r0) : q_ex q_pr n 1 116 14 (q_L [(0, .inr (.inr (some (24, 0)))), (1, .inl l1), (2, .inl l2)]) [.inl s1, .inr (.inr (some (24, 0)))] σ (M_session_r r0) := by
  unfold M_session_b14 at h
  refine q_ex_go 1 (pc' := 17) (L' := (q_L [(0, .inr (.inr (some (24, 0)))), (1, .inl l1), (2, .inl l2)])) (st' := []) (σ' := (q_sI σ 24 0 0 s1)) (fun _ => rfl) ?_
  refine q_nm (G := fun τ => q_ex q_pr n _ 116 17 (q_L [(0, .inr (.inr (some (24, 0)))), (1, .inl l1), (2, .inl l2)]) [] τ _) h (fun σ2 h => ?_)
  refine q_ex_br 3 (c := (σ2.1 24 0 0) ≤ 0) (pc1 := 26) (pc2 := 24) (L' := (q_L [(0, .inr (.inr (some (24, 0)))), (1, .inl l1), (2, .inl l2)])) (st' := []) (σ' := σ2) (fun _ => rfl) (fun hc => ?_) (fun hc => ?_)
  · rw [if_pos hc] at h
    refine q_ex_sw 2 (x := l2) (lo := 0) (ts := [68, 87, 94, 101, 101, 101, 114]) (t := 120) (L' := (q_L [(0, .inr (.inr (some (24, 0)))), (1, .inl l1), (2, .inl l2)])) (st' := []) (σ' := σ2) (fun _ => rfl) ?_
    refine q_sw_c (fun (hc : l2 = Int32.ofNat 0) => ?_) (fun (hc : ¬ l2 = Int32.ofNat 0) => ?_)
    · rw [if_pos hc] at h
      obtain ⟨q3, hq3, h⟩ := Option.bind_eq_some_iff.mp h
      refine q_ex_ca 3 (k1 := 117) (vs := [.inr (.inr (some (24, 0))), .inl l1]) (pc' := 73) (L' := (q_L [(0, .inr (.inr (some (24, 0)))), (1, .inl l1), (2, .inl l2)])) (rest := []) (σ' := σ2) (fun _ => rfl) (q_ex_dd (M_standing_e hq3) (Nat.le_of_ble_eq_true rfl)) rfl ?_
      refine q_ex_br 1 (c := q3.1 < 0) (pc1 := 80) (pc2 := 76) (L' := (q_L [(0, .inr (.inr (some (24, 0)))), (1, .inl l1), (2, .inl l2)])) (st' := []) (σ' := q3.2) (fun _ => rfl) (fun hc => ?_) (fun hc => ?_)
      · rw [if_pos hc] at h
        refine q_by h (fun hz h => ?_)
        refine q_ex_gb 4 (pc' := 86) (L' := (q_L [(0, .inr (.inr (some (24, 0)))), (1, .inl l1), (2, .inl l2)])) (st' := [.inl (q3.2.2.1 45 0 l1.toNatClampNeg)]) (σ' := q3.2) (fun _ => rfl) hz ?_
        exact q_ex_ll (M_session_b86_e h) trivial
      · rw [if_neg hc] at h
        refine q_ex_go 2 (pc' := 86) (L' := (q_L [(0, .inr (.inr (some (24, 0)))), (1, .inl l1), (2, .inl l2)])) (st' := [.inl 1]) (σ' := q3.2) (fun _ => rfl) ?_
        exact q_ex_ll (M_session_b86_e h) trivial
    rw [if_neg hc] at h
    refine q_sw_c (fun (hc : l2 = Int32.ofNat 1) => ?_) (fun (hc : ¬ l2 = Int32.ofNat 1) => ?_)
    · rw [if_pos hc] at h
      refine q_by h (fun hz h => ?_)
      refine q_ex_gb 4 (pc' := 93) (L' := (q_L [(0, .inr (.inr (some (24, 0)))), (1, .inl l1), (2, .inl l2)])) (st' := [.inl (σ2.2.1 34 0 l1.toNatClampNeg)]) (σ' := σ2) (fun _ => rfl) hz ?_
      cases h
      exact ⟨1, rfl⟩
    rw [if_neg hc] at h
    refine q_sw_c (fun (hc : l2 = Int32.ofNat 2) => ?_) (fun (hc : ¬ l2 = Int32.ofNat 2) => ?_)
    · rw [if_pos hc] at h
      refine q_by h (fun hz h => ?_)
      refine q_ex_gb 4 (pc' := 100) (L' := (q_L [(0, .inr (.inr (some (24, 0)))), (1, .inl l1), (2, .inl l2)])) (st' := [.inl (σ2.2.1 35 0 l1.toNatClampNeg)]) (σ' := σ2) (fun _ => rfl) hz ?_
      cases h
      exact ⟨1, rfl⟩
    rw [if_neg hc] at h
    refine q_sw_c (fun (hc : l2 = Int32.ofNat 3) => ?_) (fun (hc : ¬ l2 = Int32.ofNat 3) => ?_)
    · rw [if_pos hc] at h
      exact q_ex_ll (M_session_b101_e h) ⟨rfl, rfl, rfl, trivial⟩
    rw [if_neg hc] at h
    refine q_sw_c (fun (hc : l2 = Int32.ofNat 4) => ?_) (fun (hc : ¬ l2 = Int32.ofNat 4) => ?_)
    · rw [if_pos hc] at h
      exact q_ex_ll (M_session_b101_e h) ⟨rfl, rfl, rfl, trivial⟩
    rw [if_neg hc] at h
    refine q_sw_c (fun (hc : l2 = Int32.ofNat 5) => ?_) (fun (hc : ¬ l2 = Int32.ofNat 5) => ?_)
    · rw [if_pos hc] at h
      exact q_ex_ll (M_session_b101_e h) ⟨rfl, rfl, rfl, trivial⟩
    rw [if_neg hc] at h
    refine q_sw_c (fun (hc : l2 = Int32.ofNat 6) => ?_) (fun (hc : ¬ l2 = Int32.ofNat 6) => ?_)
    · rw [if_pos hc] at h
      obtain ⟨q4, hq4, h⟩ := Option.bind_eq_some_iff.mp h
      refine q_ex_ca 3 (k1 := 117) (vs := [.inr (.inr (some (24, 0))), .inl l1]) (pc' := 119) (L' := (q_L [(0, .inr (.inr (some (24, 0)))), (1, .inl l1), (2, .inl l2)])) (rest := []) (σ' := σ2) (fun _ => rfl) (q_ex_dd (M_standing_e hq4) (Nat.le_of_ble_eq_true rfl)) rfl ?_
      cases h
      exact ⟨1, rfl⟩
    rw [if_neg hc] at h
    refine q_sw_d ?_
    refine q_ex_go 1 (pc' := 121) (L' := (q_L [(0, .inr (.inr (some (24, 0)))), (1, .inl l1), (2, .inl l2)])) (st' := [.inl (-1)]) (σ' := σ2) (fun _ => rfl) ?_
    cases h
    exact ⟨1, rfl⟩
  · rw [if_neg hc] at h
    refine q_ex_go 1 (pc' := 25) (L' := (q_L [(0, .inr (.inr (some (24, 0)))), (1, .inl l1), (2, .inl l2)])) (st' := [.inl 0]) (σ' := σ2) (fun _ => rfl) ?_
    cases h
    exact ⟨1, rfl⟩
theorem M_session_b0_e {n : Nat} {r0 : (Int32) × J} {f : Nat} {l1 : Int32} {l2 : Int32} {σ : J} (h : M_session_b0 n f l1 l2 σ = some r0) : q_ex q_pr n 1 116 0 (q_L [(0, .inr (.inr (some (24, 0)))), (1, .inl l1), (2, .inl l2)]) [] σ (M_session_r r0) := by
  unfold M_session_b0 at h
  obtain ⟨q1, hq1, h⟩ := Option.bind_eq_some_iff.mp h
  refine q_ex_ca 4 (k1 := 98) (vs := [.inr (.inr (some (24, 0))), .inl l1]) (pc' := 6) (L' := (q_L [(0, .inr (.inr (some (24, 0)))), (1, .inl l1), (2, .inl l2)])) (rest := [.inr (.inr (some (24, 0)))]) (σ' := σ) (fun _ => rfl) (q_ex_dd (M_isSession_e hq1) (Nat.le_of_ble_eq_true rfl)) rfl ?_
  refine q_ex_br 1 (c := q1.1 = 0) (pc1 := 13) (pc2 := 9) (L' := (q_L [(0, .inr (.inr (some (24, 0)))), (1, .inl l1), (2, .inl l2)])) (st' := [.inr (.inr (some (24, 0)))]) (σ' := q1.2) (fun _ => rfl) (fun hc => ?_) (fun hc => ?_)
  · rw [if_pos hc] at h
    refine q_ex_go 1 (pc' := 14) (L' := (q_L [(0, .inr (.inr (some (24, 0)))), (1, .inl l1), (2, .inl l2)])) (st' := [.inl 1, .inr (.inr (some (24, 0)))]) (σ' := q1.2) (fun _ => rfl) ?_
    exact q_ex_ll (M_session_b14_e h) ⟨rfl, rfl, rfl, trivial⟩
  · rw [if_neg hc] at h
    refine q_ex_go 2 (pc' := 14) (L' := (q_L [(0, .inr (.inr (some (24, 0)))), (1, .inl l1), (2, .inl l2)])) (st' := [.inl 0, .inr (.inr (some (24, 0)))]) (σ' := q1.2) (fun _ => rfl) ?_
    exact q_ex_ll (M_session_b14_e h) ⟨rfl, rfl, rfl, trivial⟩
theorem M_session_e {n : Nat} {r0 : (Int32) × J} {f : Nat} {x1 : Int32} {x2 : Int32} {σ : J} (h : M_session n f x1 x2 σ = some r0) : q_ex q_pr n 1 116 0 (q_args 0 [.inr (.inr (some (24, 0))), .inl x1, .inl x2]) [] σ (M_session_r r0) := q_ex_ll (M_session_b0_e h) ⟨rfl, rfl, rfl, trivial⟩
def M_stop_r : (Int32) × J → Res := fun q => (.inl (some (.inl q.1)), q.2)
-- 118: M_stop
def M_stop_b32 (n : Nat) (f : Nat) (σ : J) : Option ((Int32) × J) := if (0 : Int32) &&& 1 = 0 then some (0, σ) else none
def M_stop_b14 (n : Nat) (f : Nat) (l1 : Int32) (s1 : Int32) (σ : J) : Option ((Int32) × J) := q_bs (q_sI σ 24 0 0 s1) fun σ2 => if 0 < (σ2.1 24 0 0) then M_stop_b32 n f σ2 else (M_standing n f l1 σ2).bind fun q3 => if 0 ≤ q3.1 then (M_leave n f l1 q3.2).bind fun q4 => if (1 : Int32) &&& 1 = 1 then some (1, q4) else none else M_stop_b32 n f q3.2
def M_stop_b0 (n : Nat) (f : Nat) (l1 : Int32) (σ : J) : Option ((Int32) × J) := (M_isSession n l1 σ).bind fun q1 => if q1.1 = 0 then M_stop_b14 n f l1 1 q1.2 else M_stop_b14 n f l1 0 q1.2
def M_stop (n : Nat) (f : Nat) (x1 : Int32) (σ : J) : Option ((Int32) × J) := M_stop_b0 n f x1 σ
theorem M_stop_b32_e {n : Nat} {r0 : (Int32) × J} {f : Nat} {σ : J} (h : M_stop_b32 n f σ = some r0) : q_ex q_pr n 2 118 32 (q_L []) [] σ (M_stop_r r0) := by
  unfold M_stop_b32 at h
  refine q_ex_go 1 (pc' := 33) (L' := (q_L [])) (st' := [.inl 0]) (σ' := σ) (fun _ => rfl) ?_
  refine q_by h (fun hz h => ?_)
  cases h
  exact ⟨1, if_pos (e := (none : Option Res)) hz⟩
theorem M_stop_b14_e {n : Nat} {r0 : (Int32) × J} {f : Nat} {l1 : Int32} {s1 : Int32} {σ : J} (h : M_stop_b14 n f l1 s1 σ = some r0) : q_ex q_pr n 2 118 14 (q_L [(0, .inr (.inr (some (24, 0)))), (1, .inl l1)]) [.inl s1, .inr (.inr (some (24, 0)))] σ (M_stop_r r0) := by
  unfold M_stop_b14 at h
  refine q_ex_go 1 (pc' := 17) (L' := (q_L [(0, .inr (.inr (some (24, 0)))), (1, .inl l1)])) (st' := []) (σ' := (q_sI σ 24 0 0 s1)) (fun _ => rfl) ?_
  refine q_nm (G := fun τ => q_ex q_pr n _ 118 17 (q_L [(0, .inr (.inr (some (24, 0)))), (1, .inl l1)]) [] τ _) h (fun σ2 h => ?_)
  refine q_ex_br 3 (c := 0 < (σ2.1 24 0 0)) (pc1 := 32) (pc2 := 24) (L' := (q_L [(0, .inr (.inr (some (24, 0)))), (1, .inl l1)])) (st' := []) (σ' := σ2) (fun _ => rfl) (fun hc => ?_) (fun hc => ?_)
  · rw [if_pos hc] at h
    exact q_ex_ll (M_stop_b32_e h) trivial
  · rw [if_neg hc] at h
    obtain ⟨q3, hq3, h⟩ := Option.bind_eq_some_iff.mp h
    refine q_ex_ca 3 (k1 := 117) (vs := [.inr (.inr (some (24, 0))), .inl l1]) (pc' := 29) (L' := (q_L [(0, .inr (.inr (some (24, 0)))), (1, .inl l1)])) (rest := []) (σ' := σ2) (fun _ => rfl) (q_ex_dd (M_standing_e hq3) (Nat.le_of_ble_eq_true rfl)) rfl ?_
    refine q_ex_br 1 (c := 0 ≤ q3.1) (pc1 := 34) (pc2 := 32) (L' := (q_L [(0, .inr (.inr (some (24, 0)))), (1, .inl l1)])) (st' := []) (σ' := q3.2) (fun _ => rfl) (fun hc => ?_) (fun hc => ?_)
    · rw [if_pos hc] at h
      obtain ⟨q4, hq4, h⟩ := Option.bind_eq_some_iff.mp h
      refine q_ex_ca 3 (k1 := 101) (vs := [.inr (.inr (some (24, 0))), .inl l1]) (pc' := 39) (L' := (q_L [(0, .inr (.inr (some (24, 0)))), (1, .inl l1)])) (rest := []) (σ' := q3.2) (fun _ => rfl) (q_ex_dd (M_leave_e hq4) (Nat.le_of_ble_eq_true rfl)) rfl ?_
      refine q_ex_go 1 (pc' := 40) (L' := (q_L [(0, .inr (.inr (some (24, 0)))), (1, .inl l1)])) (st' := [.inl 1]) (σ' := q4) (fun _ => rfl) ?_
      refine q_by h (fun hz h => ?_)
      cases h
      exact ⟨1, if_pos (e := (none : Option Res)) hz⟩
    · rw [if_neg hc] at h
      exact q_ex_ll (M_stop_b32_e h) trivial
theorem M_stop_b0_e {n : Nat} {r0 : (Int32) × J} {f : Nat} {l1 : Int32} {σ : J} (h : M_stop_b0 n f l1 σ = some r0) : q_ex q_pr n 2 118 0 (q_L [(0, .inr (.inr (some (24, 0)))), (1, .inl l1)]) [] σ (M_stop_r r0) := by
  unfold M_stop_b0 at h
  obtain ⟨q1, hq1, h⟩ := Option.bind_eq_some_iff.mp h
  refine q_ex_ca 4 (k1 := 98) (vs := [.inr (.inr (some (24, 0))), .inl l1]) (pc' := 6) (L' := (q_L [(0, .inr (.inr (some (24, 0)))), (1, .inl l1)])) (rest := [.inr (.inr (some (24, 0)))]) (σ' := σ) (fun _ => rfl) (q_ex_dd (M_isSession_e hq1) (Nat.le_of_ble_eq_true rfl)) rfl ?_
  refine q_ex_br 1 (c := q1.1 = 0) (pc1 := 13) (pc2 := 9) (L' := (q_L [(0, .inr (.inr (some (24, 0)))), (1, .inl l1)])) (st' := [.inr (.inr (some (24, 0)))]) (σ' := q1.2) (fun _ => rfl) (fun hc => ?_) (fun hc => ?_)
  · rw [if_pos hc] at h
    refine q_ex_go 1 (pc' := 14) (L' := (q_L [(0, .inr (.inr (some (24, 0)))), (1, .inl l1)])) (st' := [.inl 1, .inr (.inr (some (24, 0)))]) (σ' := q1.2) (fun _ => rfl) ?_
    exact q_ex_ll (M_stop_b14_e h) ⟨rfl, rfl, trivial⟩
  · rw [if_neg hc] at h
    refine q_ex_go 2 (pc' := 14) (L' := (q_L [(0, .inr (.inr (some (24, 0)))), (1, .inl l1)])) (st' := [.inl 0, .inr (.inr (some (24, 0)))]) (σ' := q1.2) (fun _ => rfl) ?_
    exact q_ex_ll (M_stop_b14_e h) ⟨rfl, rfl, trivial⟩
theorem M_stop_e {n : Nat} {r0 : (Int32) × J} {f : Nat} {x1 : Int32} {σ : J} (h : M_stop n f x1 σ = some r0) : q_ex q_pr n 2 118 0 (q_args 0 [.inr (.inr (some (24, 0))), .inl x1]) [] σ (M_stop_r r0) := q_ex_ll (M_stop_b0_e h) ⟨rfl, rfl, trivial⟩
def M_swap_r : (Int32) × J → Res := fun q => (.inl (some (.inl q.1)), q.2)
-- 119: M_swap
def M_swap_b76 (n : Nat) (f : Nat) (l1 : Int32) (l2 : Int32) (s1 : Int32) (σ : J) : Option ((Int32) × J) := q_bs (q_sI σ 24 0 0 s1) fun σ5 => if (σ5.1 24 0 0) ≤ 0 then if q_in l1 4 = true then q_bs (q_sA σ5 45 0 (upd (σ5.2.1 45 0) l1.toNatClampNeg 0)) fun σ6 => (M_clear n f l1 σ6).bind fun q7 => if l2 = 0 then some ((-1), q7) else (M_keep n f l1 1 1 q7).bind fun q8 => (M_add n f l1 0 q8).bind fun q9 => some (q9.1, q9.2) else none else some (0, σ5)
def M_swap_b75 (n : Nat) (f : Nat) (l1 : Int32) (l2 : Int32) (σ : J) : Option ((Int32) × J) := M_swap_b76 n f l1 l2 0 σ
def M_swap_b26 (n : Nat) (f : Nat) (l1 : Int32) (s2 : Int32) (s3 : Int32) (σ : J) : Option ((Int32) × J) := (M_first n f s2 s3 σ).bind fun q2 => q_bs (q_sI q2.2 24 0 0 q2.1) fun σ3 => if (σ3.1 24 0 0) ≤ 0 then (M_search n f l1 1 σ3).bind fun q4 => if q4.1 = 0 then M_swap_b75 n f l1 q4.1 q4.2 else if q_in l1 4 = true then if (q4.2.2.1 34 0 l1.toNatClampNeg) ≤ 0 then M_swap_b75 n f l1 q4.1 q4.2 else if (q4.2.1 24 1 0) = 20 then M_swap_b76 n f l1 q4.1 4 q4.2 else M_swap_b75 n f l1 q4.1 q4.2 else none else some (0, σ3)
def M_swap_b25 (n : Nat) (f : Nat) (l1 : Int32) (s2 : Int32) (σ : J) : Option ((Int32) × J) := M_swap_b26 n f l1 s2 0 σ
def M_swap_b0 (n : Nat) (f : Nat) (l1 : Int32) (σ : J) : Option ((Int32) × J) := (M_ready n f l1 1 σ).bind fun q1 => if q1.1 = 0 then M_swap_b25 n f l1 l1 q1.2 else if q_in l1 4 = true then if (q1.2.2.1 35 0 l1.toNatClampNeg) ≤ 0 then M_swap_b25 n f l1 l1 q1.2 else M_swap_b26 n f l1 l1 1 q1.2 else none
def M_swap (n : Nat) (f : Nat) (x1 : Int32) (σ : J) : Option ((Int32) × J) := M_swap_b0 n f x1 σ
theorem M_swap_b76_e {n : Nat} {r0 : (Int32) × J} {f : Nat} {l1 : Int32} {l2 : Int32} {s1 : Int32} {σ : J} (h : M_swap_b76 n f l1 l2 s1 σ = some r0) : q_ex q_pr n 7 119 76 (q_L [(0, .inr (.inr (some (24, 0)))), (1, .inl l1), (2, .inl l2)]) [.inl s1, .inr (.inr (some (24, 0)))] σ (M_swap_r r0) := by
  unfold M_swap_b76 at h
  refine q_ex_go 1 (pc' := 79) (L' := (q_L [(0, .inr (.inr (some (24, 0)))), (1, .inl l1), (2, .inl l2)])) (st' := []) (σ' := (q_sI σ 24 0 0 s1)) (fun _ => rfl) ?_
  refine q_nm (G := fun τ => q_ex q_pr n _ 119 79 (q_L [(0, .inr (.inr (some (24, 0)))), (1, .inl l1), (2, .inl l2)]) [] τ _) h (fun σ5 h => ?_)
  refine q_ex_br 3 (c := (σ5.1 24 0 0) ≤ 0) (pc1 := 88) (pc2 := 86) (L' := (q_L [(0, .inr (.inr (some (24, 0)))), (1, .inl l1), (2, .inl l2)])) (st' := []) (σ' := σ5) (fun _ => rfl) (fun hc => ?_) (fun hc => ?_)
  · rw [if_pos hc] at h
    refine q_by h (fun hz h => ?_)
    refine q_ex_gb 5 (pc' := 95) (L' := (q_L [(0, .inr (.inr (some (24, 0)))), (1, .inl l1), (2, .inl l2)])) (st' := []) (σ' := (q_sA σ5 45 0 (upd (σ5.2.1 45 0) l1.toNatClampNeg 0))) (fun _ => rfl) hz ?_
    refine q_nm (G := fun τ => q_ex q_pr n _ 119 95 (q_L [(0, .inr (.inr (some (24, 0)))), (1, .inl l1), (2, .inl l2)]) [] τ _) h (fun σ6 h => ?_)
    obtain ⟨q7, hq7, h⟩ := Option.bind_eq_some_iff.mp h
    refine q_ex_ca 3 (k1 := 83) (vs := [.inr (.inr (some (24, 0))), .inl l1]) (pc' := 100) (L' := (q_L [(0, .inr (.inr (some (24, 0)))), (1, .inl l1), (2, .inl l2)])) (rest := []) (σ' := σ6) (fun _ => rfl) (q_ex_dd (M_clear_e hq7) (Nat.le_of_ble_eq_true rfl)) rfl ?_
    refine q_ex_br 2 (c := l2 = 0) (pc1 := 104) (pc2 := 106) (L' := (q_L [(0, .inr (.inr (some (24, 0)))), (1, .inl l1), (2, .inl l2)])) (st' := []) (σ' := q7) (fun _ => rfl) (fun hc => ?_) (fun hc => ?_)
    · rw [if_pos hc] at h
      refine q_ex_go 1 (pc' := 105) (L' := (q_L [(0, .inr (.inr (some (24, 0)))), (1, .inl l1), (2, .inl l2)])) (st' := [.inl (-1)]) (σ' := q7) (fun _ => rfl) ?_
      cases h
      exact ⟨1, rfl⟩
    · rw [if_neg hc] at h
      obtain ⟨q8, hq8, h⟩ := Option.bind_eq_some_iff.mp h
      refine q_ex_ca 5 (k1 := 100) (vs := [.inr (.inr (some (24, 0))), .inl l1, .inl 1, .inl 1]) (pc' := 113) (L' := (q_L [(0, .inr (.inr (some (24, 0)))), (1, .inl l1), (2, .inl l2)])) (rest := []) (σ' := q7) (fun _ => rfl) (q_ex_dd (M_keep_e hq8) (Nat.le_of_ble_eq_true rfl)) rfl ?_
      obtain ⟨q9, hq9, h⟩ := Option.bind_eq_some_iff.mp h
      refine q_ex_ca 4 (k1 := 81) (vs := [.inr (.inr (some (24, 0))), .inl l1, .inl 0]) (pc' := 119) (L' := (q_L [(0, .inr (.inr (some (24, 0)))), (1, .inl l1), (2, .inl l2)])) (rest := []) (σ' := q8) (fun _ => rfl) (q_ex_dd (M_add_e hq9) (Nat.le_of_ble_eq_true rfl)) rfl ?_
      cases h
      exact ⟨1, rfl⟩
  · rw [if_neg hc] at h
    refine q_ex_go 1 (pc' := 87) (L' := (q_L [(0, .inr (.inr (some (24, 0)))), (1, .inl l1), (2, .inl l2)])) (st' := [.inl 0]) (σ' := σ5) (fun _ => rfl) ?_
    cases h
    exact ⟨1, rfl⟩
theorem M_swap_b75_e {n : Nat} {r0 : (Int32) × J} {f : Nat} {l1 : Int32} {l2 : Int32} {σ : J} (h : M_swap_b75 n f l1 l2 σ = some r0) : q_ex q_pr n 7 119 75 (q_L [(0, .inr (.inr (some (24, 0)))), (1, .inl l1), (2, .inl l2)]) [.inr (.inr (some (24, 0)))] σ (M_swap_r r0) := by
  unfold M_swap_b75 at h
  refine q_ex_go 1 (pc' := 76) (L' := (q_L [(0, .inr (.inr (some (24, 0)))), (1, .inl l1), (2, .inl l2)])) (st' := [.inl 0, .inr (.inr (some (24, 0)))]) (σ' := σ) (fun _ => rfl) ?_
  exact q_ex_ll (M_swap_b76_e h) ⟨rfl, rfl, rfl, trivial⟩
theorem M_swap_b26_e {n : Nat} {r0 : (Int32) × J} {f : Nat} {l1 : Int32} {s2 : Int32} {s3 : Int32} {σ : J} (h : M_swap_b26 n f l1 s2 s3 σ = some r0) : q_ex q_pr n 7 119 26 (q_L [(0, .inr (.inr (some (24, 0)))), (1, .inl l1)]) [.inl s3, .inl s2, .inr (.inr (some (24, 0))), .inr (.inr (some (24, 0)))] σ (M_swap_r r0) := by
  unfold M_swap_b26 at h
  obtain ⟨q2, hq2, h⟩ := Option.bind_eq_some_iff.mp h
  refine q_ex_ca 1 (k1 := 90) (vs := [.inr (.inr (some (24, 0))), .inl s2, .inl s3]) (pc' := 29) (L' := (q_L [(0, .inr (.inr (some (24, 0)))), (1, .inl l1)])) (rest := [.inr (.inr (some (24, 0)))]) (σ' := σ) (fun _ => rfl) (q_ex_dd (M_first_e hq2) (Nat.le_of_ble_eq_true rfl)) rfl ?_
  refine q_ex_go 1 (pc' := 32) (L' := (q_L [(0, .inr (.inr (some (24, 0)))), (1, .inl l1)])) (st' := []) (σ' := (q_sI q2.2 24 0 0 q2.1)) (fun _ => rfl) ?_
  refine q_nm (G := fun τ => q_ex q_pr n _ 119 32 (q_L [(0, .inr (.inr (some (24, 0)))), (1, .inl l1)]) [] τ _) h (fun σ3 h => ?_)
  refine q_ex_br 3 (c := (σ3.1 24 0 0) ≤ 0) (pc1 := 41) (pc2 := 39) (L' := (q_L [(0, .inr (.inr (some (24, 0)))), (1, .inl l1)])) (st' := []) (σ' := σ3) (fun _ => rfl) (fun hc => ?_) (fun hc => ?_)
  · rw [if_pos hc] at h
    obtain ⟨q4, hq4, h⟩ := Option.bind_eq_some_iff.mp h
    refine q_ex_ca 4 (k1 := 112) (vs := [.inr (.inr (some (24, 0))), .inl l1, .inl 1]) (pc' := 47) (L' := (q_L [(0, .inr (.inr (some (24, 0)))), (1, .inl l1)])) (rest := []) (σ' := σ3) (fun _ => rfl) (q_ex_dd (M_search_e hq4) (Nat.le_of_ble_eq_true rfl)) rfl ?_
    refine q_ex_br 4 (c := q4.1 = 0) (pc1 := 75) (pc2 := 53) (L' := (q_s1 (q_L [(0, .inr (.inr (some (24, 0)))), (1, .inl l1)]) 2 (.inl q4.1))) (st' := [.inr (.inr (some (24, 0)))]) (σ' := q4.2) (fun _ => rfl) (fun hc => ?_) (fun hc => ?_)
    · rw [if_pos hc] at h
      exact q_ex_ll (M_swap_b75_e h) ⟨rfl, rfl, rfl, trivial⟩
    · rw [if_neg hc] at h
      refine q_by h (fun hz h => ?_)
      refine q_ex_gb 4 (pc' := 59) (L' := (q_s1 (q_L [(0, .inr (.inr (some (24, 0)))), (1, .inl l1)]) 2 (.inl q4.1))) (st' := [.inl (q4.2.2.1 34 0 l1.toNatClampNeg), .inr (.inr (some (24, 0)))]) (σ' := q4.2) (fun _ => rfl) hz ?_
      refine q_ex_br 1 (c := (q4.2.2.1 34 0 l1.toNatClampNeg) ≤ 0) (pc1 := 75) (pc2 := 62) (L' := (q_s1 (q_L [(0, .inr (.inr (some (24, 0)))), (1, .inl l1)]) 2 (.inl q4.1))) (st' := [.inr (.inr (some (24, 0)))]) (σ' := q4.2) (fun _ => rfl) (fun hc => ?_) (fun hc => ?_)
      · rw [if_pos hc] at h
        exact q_ex_ll (M_swap_b75_e h) ⟨rfl, rfl, rfl, trivial⟩
      · rw [if_neg hc] at h
        refine q_ex_br 4 (c := (q4.2.1 24 1 0) = 20) (pc1 := 71) (pc2 := 75) (L' := (q_s1 (q_L [(0, .inr (.inr (some (24, 0)))), (1, .inl l1)]) 2 (.inl q4.1))) (st' := [.inr (.inr (some (24, 0)))]) (σ' := q4.2) (fun _ => rfl) (fun hc => ?_) (fun hc => ?_)
        · rw [if_pos hc] at h
          refine q_ex_go 2 (pc' := 76) (L' := (q_s1 (q_L [(0, .inr (.inr (some (24, 0)))), (1, .inl l1)]) 2 (.inl q4.1))) (st' := [.inl 4, .inr (.inr (some (24, 0)))]) (σ' := q4.2) (fun _ => rfl) ?_
          exact q_ex_ll (M_swap_b76_e h) ⟨rfl, rfl, rfl, trivial⟩
        · rw [if_neg hc] at h
          exact q_ex_ll (M_swap_b75_e h) ⟨rfl, rfl, rfl, trivial⟩
  · rw [if_neg hc] at h
    refine q_ex_go 1 (pc' := 40) (L' := (q_L [(0, .inr (.inr (some (24, 0)))), (1, .inl l1)])) (st' := [.inl 0]) (σ' := σ3) (fun _ => rfl) ?_
    cases h
    exact ⟨1, rfl⟩
theorem M_swap_b25_e {n : Nat} {r0 : (Int32) × J} {f : Nat} {l1 : Int32} {s2 : Int32} {σ : J} (h : M_swap_b25 n f l1 s2 σ = some r0) : q_ex q_pr n 7 119 25 (q_L [(0, .inr (.inr (some (24, 0)))), (1, .inl l1)]) [.inl s2, .inr (.inr (some (24, 0))), .inr (.inr (some (24, 0)))] σ (M_swap_r r0) := by
  unfold M_swap_b25 at h
  refine q_ex_go 1 (pc' := 26) (L' := (q_L [(0, .inr (.inr (some (24, 0)))), (1, .inl l1)])) (st' := [.inl 0, .inl s2, .inr (.inr (some (24, 0))), .inr (.inr (some (24, 0)))]) (σ' := σ) (fun _ => rfl) ?_
  exact q_ex_ll (M_swap_b26_e h) ⟨rfl, rfl, trivial⟩
theorem M_swap_b0_e {n : Nat} {r0 : (Int32) × J} {f : Nat} {l1 : Int32} {σ : J} (h : M_swap_b0 n f l1 σ = some r0) : q_ex q_pr n 7 119 0 (q_L [(0, .inr (.inr (some (24, 0)))), (1, .inl l1)]) [] σ (M_swap_r r0) := by
  unfold M_swap_b0 at h
  obtain ⟨q1, hq1, h⟩ := Option.bind_eq_some_iff.mp h
  refine q_ex_ca 7 (k1 := 109) (vs := [.inr (.inr (some (24, 0))), .inl l1, .inl 1]) (pc' := 9) (L' := (q_L [(0, .inr (.inr (some (24, 0)))), (1, .inl l1)])) (rest := [.inl l1, .inr (.inr (some (24, 0))), .inr (.inr (some (24, 0)))]) (σ' := σ) (fun _ => rfl) (q_ex_dd (M_ready_e hq1) (Nat.le_of_ble_eq_true rfl)) rfl ?_
  refine q_ex_br 1 (c := q1.1 = 0) (pc1 := 25) (pc2 := 12) (L' := (q_L [(0, .inr (.inr (some (24, 0)))), (1, .inl l1)])) (st' := [.inl l1, .inr (.inr (some (24, 0))), .inr (.inr (some (24, 0)))]) (σ' := q1.2) (fun _ => rfl) (fun hc => ?_) (fun hc => ?_)
  · rw [if_pos hc] at h
    exact q_ex_ll (M_swap_b25_e h) ⟨rfl, rfl, trivial⟩
  · rw [if_neg hc] at h
    refine q_by h (fun hz h => ?_)
    refine q_ex_gb 4 (pc' := 18) (L' := (q_L [(0, .inr (.inr (some (24, 0)))), (1, .inl l1)])) (st' := [.inl (q1.2.2.1 35 0 l1.toNatClampNeg), .inl l1, .inr (.inr (some (24, 0))), .inr (.inr (some (24, 0)))]) (σ' := q1.2) (fun _ => rfl) hz ?_
    refine q_ex_br 1 (c := (q1.2.2.1 35 0 l1.toNatClampNeg) ≤ 0) (pc1 := 25) (pc2 := 21) (L' := (q_L [(0, .inr (.inr (some (24, 0)))), (1, .inl l1)])) (st' := [.inl l1, .inr (.inr (some (24, 0))), .inr (.inr (some (24, 0)))]) (σ' := q1.2) (fun _ => rfl) (fun hc => ?_) (fun hc => ?_)
    · rw [if_pos hc] at h
      exact q_ex_ll (M_swap_b25_e h) ⟨rfl, rfl, trivial⟩
    · rw [if_neg hc] at h
      refine q_ex_go 2 (pc' := 26) (L' := (q_L [(0, .inr (.inr (some (24, 0)))), (1, .inl l1)])) (st' := [.inl 1, .inl l1, .inr (.inr (some (24, 0))), .inr (.inr (some (24, 0)))]) (σ' := q1.2) (fun _ => rfl) ?_
      exact q_ex_ll (M_swap_b26_e h) ⟨rfl, rfl, trivial⟩
theorem M_swap_e {n : Nat} {r0 : (Int32) × J} {f : Nat} {x1 : Int32} {σ : J} (h : M_swap n f x1 σ = some r0) : q_ex q_pr n 7 119 0 (q_args 0 [.inr (.inr (some (24, 0))), .inl x1]) [] σ (M_swap_r r0) := q_ex_ll (M_swap_b0_e h) ⟨rfl, rfl, trivial⟩
def M_thrown_r : (Int32) × J → Res := fun q => (.inl (some (.inl q.1)), q.2)
-- 120: M_thrown
def M_thrown_b0 (n : Nat) (σ : J) : Option ((Int32) × J) := some (σ.1 24 0 0, σ)
def M_thrown (n : Nat) (σ : J) : Option ((Int32) × J) := M_thrown_b0 n σ
theorem M_thrown_b0_e {n : Nat} {r0 : (Int32) × J} {σ : J} (h : M_thrown_b0 n σ = some r0) : q_ex q_pr n 0 120 0 (q_L [(0, .inr (.inr (some (24, 0))))]) [] σ (M_thrown_r r0) := by
  unfold M_thrown_b0 at h
  refine q_ex_go 2 (pc' := 4) (L' := (q_L [(0, .inr (.inr (some (24, 0))))])) (st' := [.inl (σ.1 24 0 0)]) (σ' := σ) (fun _ => rfl) ?_
  cases h
  exact ⟨1, rfl⟩
theorem M_thrown_e {n : Nat} {r0 : (Int32) × J} {σ : J} (h : M_thrown n σ = some r0) : q_ex q_pr n 0 120 0 (q_args 0 [.inr (.inr (some (24, 0)))]) [] σ (M_thrown_r r0) := q_ex_ll (M_thrown_b0_e h) ⟨rfl, trivial⟩
def M_tick_r : (Int32) × J → Res := fun q => (.inl (some (.inl q.1)), q.2)
-- 121: M_tick
def M_tick_b189 (n : Nat) (f : Nat) (l2 : Int32) (σ : J) : Option ((Int32) × J) := some (l2, σ)
def M_tick_b169 (n : Nat) (k49 : Int32 → Int32 → Int32 → J → Option ((Int32) × J)) (f : Nat) (l2 : Int32) (l3 : Int32) (σ : J) : Option ((Int32) × J) := (M_ending n f σ).bind fun q13 => k49 (l2 + 1) l3 q13.1 q13.2
def M_tick_b150 (n : Nat) (k49 : Int32 → Int32 → Int32 → J → Option ((Int32) × J)) (f : Nat) (l2 : Int32) (l3 : Int32) (l5 : Int32) (σ : J) : Option ((Int32) × J) := (M_place n f l5 σ).bind fun q10 => if q10.1 < 0 then M_tick_b169 n k49 f l2 l3 q10.2 else (M_place n f l5 q10.2).bind fun q11 => (M_remove n f q11.1 q11.2).bind fun q12 => M_tick_b169 n k49 f l2 l3 q12
def M_tick_b122 (n : Nat) (k49 : Int32 → Int32 → Int32 → J → Option ((Int32) × J)) (f : Nat) (l2 : Int32) (l3 : Int32) (l5 : Int32) (l6 : Int32) (σ : J) : Option ((Int32) × J) := if l6 < 0 then M_tick_b150 n k49 f l2 l3 l5 σ else (M_standing n f l6 σ).bind fun q7 => if q7.1 < 0 then M_tick_b150 n k49 f l2 l3 l5 q7.2 else (M_leave n f l6 q7.2).bind fun q8 => if q_in l6 4 = true then q_bs (q_sA q8 45 0 (upd (q8.2.1 45 0) l6.toNatClampNeg 3)) fun σ9 => M_tick_b150 n k49 f l2 l3 l5 σ9 else none
def M_tick_b118 (n : Nat) (k49 : Int32 → Int32 → Int32 → J → Option ((Int32) × J)) (k81 : Int32 → Int32 → Int32 → Int32 → Int32 → J → Option ((Int32) × J)) (f : Nat) (l2 : Int32) (l5 : Int32) (l6 : Int32) (l7 : Int32) (s0 : Int32) (σ : J) : Option ((Int32) × J) := k81 l2 s0 l5 l6 l7 σ
def M_tick_b113 (n : Nat) (k49 : Int32 → Int32 → Int32 → J → Option ((Int32) × J)) (k81 : Int32 → Int32 → Int32 → Int32 → Int32 → J → Option ((Int32) × J)) (f : Nat) (l2 : Int32) (l5 : Int32) (l6 : Int32) (l7 : Int32) (σ : J) : Option ((Int32) × J) := M_tick_b118 n k49 k81 f l2 l5 l6 l7 1 σ
def M_tick_b81 (n : Nat) (k49 : Int32 → Int32 → Int32 → J → Option ((Int32) × J)) (k81 : Int32 → Int32 → Int32 → Int32 → Int32 → J → Option ((Int32) × J)) (f : Nat) (l2 : Int32) (l3 : Int32) (l5 : Int32) (l6 : Int32) (l7 : Int32) (σ : J) : Option ((Int32) × J) := if l6 < 0 then M_tick_b122 n k49 f l2 l3 l5 l6 σ else if q_in l6 4 = true then if (σ.2.1 34 0 l6.toNatClampNeg) < l7 then M_tick_b122 n k49 f l2 l3 l5 l6 σ else (M_drop n f l6 σ).bind fun q6 => if 100 ≤ q6.1 then M_tick_b113 n k49 k81 f l2 l5 l6 l7 q6.2 else if l3 = 0 then M_tick_b118 n k49 k81 f l2 l5 l6 l7 0 q6.2 else M_tick_b113 n k49 k81 f l2 l5 l6 l7 q6.2 else none
def M_tick_L81 (n : Nat) (k49 : Int32 → Int32 → Int32 → J → Option ((Int32) × J)) : Nat → Int32 → Int32 → Int32 → Int32 → Int32 → J → Option ((Int32) × J)
  | 0 => fun _ _ _ _ _ _ => none
  | f + 1 => fun l2 l3 l5 l6 l7 σ => M_tick_b81 n k49 (M_tick_L81 n k49 f) f l2 l3 l5 l6 l7 σ
def M_tick_b49 (n : Nat) (k49 : Int32 → Int32 → Int32 → J → Option ((Int32) × J)) (f : Nat) (l2 : Int32) (l3 : Int32) (l4 : Int32) (σ : J) : Option ((Int32) × J) := if l4 < 0 then if l3 = 0 then M_tick_b189 n f l2 σ else (M_serve n f σ).bind fun q5 => M_tick_b189 n f l2 q5 else if q_in l4 20 = true then if q_in l4 20 = true then if q_in l4 20 = true then M_tick_L81 n k49 f l2 l3 (σ.2.1 25 0 l4.toNatClampNeg) (σ.2.1 30 0 l4.toNatClampNeg) (σ.2.1 31 0 l4.toNatClampNeg) σ else none else none else none
def M_tick_L49 (n : Nat) : Nat → Int32 → Int32 → Int32 → J → Option ((Int32) × J)
  | 0 => fun _ _ _ _ => none
  | f + 1 => fun l2 l3 l4 σ => M_tick_b49 n (M_tick_L49 n f) f l2 l3 l4 σ
def M_tick_b17 (n : Nat) (f : Nat) (l1 : Int32) (s1 : Int32) (σ : J) : Option ((Int32) × J) := q_bs (q_sI σ 24 0 0 s1) fun σ2 => if (σ2.1 24 0 0) ≤ 0 then q_bs (q_sI σ2 24 3 0 ((σ2.1 24 3 0) + l1)) fun σ3 => (M_ending n f σ3).bind fun q4 => M_tick_L49 n f 0 0 q4.1 q4.2 else some (0, σ2)
def M_tick_b0 (n : Nat) (f : Nat) (l1 : Int32) (σ : J) : Option ((Int32) × J) := (M_within n l1.toInt64 1000 σ).bind fun q1 => if q1.1 = 0 then M_tick_b17 n f l1 1 q1.2 else M_tick_b17 n f l1 0 q1.2
def M_tick (n : Nat) (f : Nat) (x1 : Int32) (σ : J) : Option ((Int32) × J) := M_tick_b0 n f x1 σ
theorem M_tick_b189_e {n : Nat} {r0 : (Int32) × J} {f : Nat} {l2 : Int32} {σ : J} (h : M_tick_b189 n f l2 σ = some r0) : q_ex q_pr n 6 121 189 (q_L [(2, .inl l2)]) [] σ (M_tick_r r0) := by
  unfold M_tick_b189 at h
  refine q_ex_go 1 (pc' := 190) (L' := (q_L [(2, .inl l2)])) (st' := [.inl l2]) (σ' := σ) (fun _ => rfl) ?_
  cases h
  exact ⟨1, rfl⟩
theorem M_tick_b169_e {n : Nat} {r0 : (Int32) × J} {k49 : Int32 → Int32 → Int32 → J → Option ((Int32) × J)} {f : Nat} {l2 : Int32} {l3 : Int32} {σ : J} (hk49 : ∀ {l2 : Int32} {l3 : Int32} {l4 : Int32} {σ : J}, k49 l2 l3 l4 σ = some r0 → q_ex q_pr n 6 121 49 (q_L [(0, .inr (.inr (some (24, 0)))), (2, .inl l2), (3, .inl l3), (4, .inl l4)]) [] σ (M_tick_r r0)) (h : M_tick_b169 n k49 f l2 l3 σ = some r0) : q_ex q_pr n 6 121 169 (q_L [(0, .inr (.inr (some (24, 0)))), (2, .inl l2), (3, .inl l3)]) [] σ (M_tick_r r0) := by
  unfold M_tick_b169 at h
  obtain ⟨q13, hq13, h⟩ := Option.bind_eq_some_iff.mp h
  refine q_ex_ca 3 (k1 := 87) (vs := [.inr (.inr (some (24, 0)))]) (pc' := 176) (L' := (q_s1 (q_L [(0, .inr (.inr (some (24, 0)))), (2, .inl l2), (3, .inl l3)]) 2 (.inl (l2 + 1)))) (rest := []) (σ' := σ) (fun _ => rfl) (q_ex_dd (M_ending_e hq13) (Nat.le_of_ble_eq_true rfl)) rfl ?_
  refine q_ex_go 2 (pc' := 49) (L' := (q_s1 (q_s1 (q_L [(0, .inr (.inr (some (24, 0)))), (2, .inl l2), (3, .inl l3)]) 2 (.inl (l2 + 1))) 4 (.inl q13.1))) (st' := []) (σ' := q13.2) (fun _ => rfl) ?_
  exact q_ex_ll (hk49 h) ⟨rfl, rfl, rfl, rfl, trivial⟩
theorem M_tick_b150_e {n : Nat} {r0 : (Int32) × J} {k49 : Int32 → Int32 → Int32 → J → Option ((Int32) × J)} {f : Nat} {l2 : Int32} {l3 : Int32} {l5 : Int32} {σ : J} (hk49 : ∀ {l2 : Int32} {l3 : Int32} {l4 : Int32} {σ : J}, k49 l2 l3 l4 σ = some r0 → q_ex q_pr n 6 121 49 (q_L [(0, .inr (.inr (some (24, 0)))), (2, .inl l2), (3, .inl l3), (4, .inl l4)]) [] σ (M_tick_r r0)) (h : M_tick_b150 n k49 f l2 l3 l5 σ = some r0) : q_ex q_pr n 6 121 150 (q_L [(0, .inr (.inr (some (24, 0)))), (2, .inl l2), (3, .inl l3), (5, .inl l5)]) [] σ (M_tick_r r0) := by
  unfold M_tick_b150 at h
  obtain ⟨q10, hq10, h⟩ := Option.bind_eq_some_iff.mp h
  refine q_ex_ca 3 (k1 := 107) (vs := [.inr (.inr (some (24, 0))), .inl l5]) (pc' := 156) (L' := (q_L [(0, .inr (.inr (some (24, 0)))), (2, .inl l2), (3, .inl l3), (5, .inl l5)])) (rest := []) (σ' := σ) (fun _ => rfl) (q_ex_dd (M_place_e hq10) (Nat.le_of_ble_eq_true rfl)) rfl ?_
  refine q_ex_br 1 (c := q10.1 < 0) (pc1 := 169) (pc2 := 159) (L' := (q_L [(0, .inr (.inr (some (24, 0)))), (2, .inl l2), (3, .inl l3), (5, .inl l5)])) (st' := []) (σ' := q10.2) (fun _ => rfl) (fun hc => ?_) (fun hc => ?_)
  · rw [if_pos hc] at h
    exact q_ex_ll (M_tick_b169_e hk49 h) ⟨rfl, rfl, rfl, trivial⟩
  · rw [if_neg hc] at h
    obtain ⟨q11, hq11, h⟩ := Option.bind_eq_some_iff.mp h
    refine q_ex_ca 4 (k1 := 107) (vs := [.inr (.inr (some (24, 0))), .inl l5]) (pc' := 166) (L' := (q_L [(0, .inr (.inr (some (24, 0)))), (2, .inl l2), (3, .inl l3), (5, .inl l5)])) (rest := [.inr (.inr (some (24, 0)))]) (σ' := q10.2) (fun _ => rfl) (q_ex_dd (M_place_e hq11) (Nat.le_of_ble_eq_true rfl)) rfl ?_
    obtain ⟨q12, hq12, h⟩ := Option.bind_eq_some_iff.mp h
    refine q_ex_ca 1 (k1 := 110) (vs := [.inr (.inr (some (24, 0))), .inl q11.1]) (pc' := 169) (L' := (q_L [(0, .inr (.inr (some (24, 0)))), (2, .inl l2), (3, .inl l3), (5, .inl l5)])) (rest := []) (σ' := q11.2) (fun _ => rfl) (q_ex_dd (M_remove_e hq12) (Nat.le_of_ble_eq_true rfl)) rfl ?_
    exact q_ex_ll (M_tick_b169_e hk49 h) ⟨rfl, rfl, rfl, trivial⟩
theorem M_tick_b122_e {n : Nat} {r0 : (Int32) × J} {k49 : Int32 → Int32 → Int32 → J → Option ((Int32) × J)} {f : Nat} {l2 : Int32} {l3 : Int32} {l5 : Int32} {l6 : Int32} {σ : J} (hk49 : ∀ {l2 : Int32} {l3 : Int32} {l4 : Int32} {σ : J}, k49 l2 l3 l4 σ = some r0 → q_ex q_pr n 6 121 49 (q_L [(0, .inr (.inr (some (24, 0)))), (2, .inl l2), (3, .inl l3), (4, .inl l4)]) [] σ (M_tick_r r0)) (h : M_tick_b122 n k49 f l2 l3 l5 l6 σ = some r0) : q_ex q_pr n 6 121 122 (q_L [(0, .inr (.inr (some (24, 0)))), (2, .inl l2), (3, .inl l3), (5, .inl l5), (6, .inl l6)]) [] σ (M_tick_r r0) := by
  unfold M_tick_b122 at h
  refine q_ex_br 2 (c := l6 < 0) (pc1 := 150) (pc2 := 127) (L' := (q_L [(0, .inr (.inr (some (24, 0)))), (2, .inl l2), (3, .inl l3), (5, .inl l5), (6, .inl l6)])) (st' := []) (σ' := σ) (fun _ => rfl) (fun hc => ?_) (fun hc => ?_)
  · rw [if_pos hc] at h
    exact q_ex_ll (M_tick_b150_e hk49 h) ⟨rfl, rfl, rfl, rfl, trivial⟩
  · rw [if_neg hc] at h
    obtain ⟨q7, hq7, h⟩ := Option.bind_eq_some_iff.mp h
    refine q_ex_ca 3 (k1 := 117) (vs := [.inr (.inr (some (24, 0))), .inl l6]) (pc' := 133) (L' := (q_L [(0, .inr (.inr (some (24, 0)))), (2, .inl l2), (3, .inl l3), (5, .inl l5), (6, .inl l6)])) (rest := []) (σ' := σ) (fun _ => rfl) (q_ex_dd (M_standing_e hq7) (Nat.le_of_ble_eq_true rfl)) rfl ?_
    refine q_ex_br 1 (c := q7.1 < 0) (pc1 := 150) (pc2 := 136) (L' := (q_L [(0, .inr (.inr (some (24, 0)))), (2, .inl l2), (3, .inl l3), (5, .inl l5), (6, .inl l6)])) (st' := []) (σ' := q7.2) (fun _ => rfl) (fun hc => ?_) (fun hc => ?_)
    · rw [if_pos hc] at h
      exact q_ex_ll (M_tick_b150_e hk49 h) ⟨rfl, rfl, rfl, rfl, trivial⟩
    · rw [if_neg hc] at h
      obtain ⟨q8, hq8, h⟩ := Option.bind_eq_some_iff.mp h
      refine q_ex_ca 3 (k1 := 101) (vs := [.inr (.inr (some (24, 0))), .inl l6]) (pc' := 142) (L' := (q_L [(0, .inr (.inr (some (24, 0)))), (2, .inl l2), (3, .inl l3), (5, .inl l5), (6, .inl l6)])) (rest := []) (σ' := q7.2) (fun _ => rfl) (q_ex_dd (M_leave_e hq8) (Nat.le_of_ble_eq_true rfl)) rfl ?_
      refine q_by h (fun hz h => ?_)
      refine q_ex_gb 5 (pc' := 150) (L' := (q_L [(0, .inr (.inr (some (24, 0)))), (2, .inl l2), (3, .inl l3), (5, .inl l5), (6, .inl l6)])) (st' := []) (σ' := (q_sA q8 45 0 (upd (q8.2.1 45 0) l6.toNatClampNeg 3))) (fun _ => rfl) hz ?_
      refine q_nm (G := fun τ => q_ex q_pr n _ 121 150 (q_L [(0, .inr (.inr (some (24, 0)))), (2, .inl l2), (3, .inl l3), (5, .inl l5), (6, .inl l6)]) [] τ _) h (fun σ9 h => ?_)
      exact q_ex_ll (M_tick_b150_e hk49 h) ⟨rfl, rfl, rfl, rfl, trivial⟩
theorem M_tick_b118_e {n : Nat} {r0 : (Int32) × J} {k49 : Int32 → Int32 → Int32 → J → Option ((Int32) × J)} {k81 : Int32 → Int32 → Int32 → Int32 → Int32 → J → Option ((Int32) × J)} {f : Nat} {l2 : Int32} {l5 : Int32} {l6 : Int32} {l7 : Int32} {s0 : Int32} {σ : J} (hk49 : ∀ {l2 : Int32} {l3 : Int32} {l4 : Int32} {σ : J}, k49 l2 l3 l4 σ = some r0 → q_ex q_pr n 6 121 49 (q_L [(0, .inr (.inr (some (24, 0)))), (2, .inl l2), (3, .inl l3), (4, .inl l4)]) [] σ (M_tick_r r0)) (hk81 : ∀ {l2 : Int32} {l3 : Int32} {l5 : Int32} {l6 : Int32} {l7 : Int32} {σ : J}, k81 l2 l3 l5 l6 l7 σ = some r0 → q_ex q_pr n 6 121 81 (q_L [(0, .inr (.inr (some (24, 0)))), (2, .inl l2), (3, .inl l3), (5, .inl l5), (6, .inl l6), (7, .inl l7)]) [] σ (M_tick_r r0)) (h : M_tick_b118 n k49 k81 f l2 l5 l6 l7 s0 σ = some r0) : q_ex q_pr n 6 121 118 (q_L [(0, .inr (.inr (some (24, 0)))), (2, .inl l2), (5, .inl l5), (6, .inl l6), (7, .inl l7)]) [.inl s0] σ (M_tick_r r0) := by
  unfold M_tick_b118 at h
  refine q_ex_go 2 (pc' := 81) (L' := (q_s1 (q_L [(0, .inr (.inr (some (24, 0)))), (2, .inl l2), (5, .inl l5), (6, .inl l6), (7, .inl l7)]) 3 (.inl s0))) (st' := []) (σ' := σ) (fun _ => rfl) ?_
  exact q_ex_ll (hk81 h) ⟨rfl, rfl, rfl, rfl, rfl, rfl, trivial⟩
theorem M_tick_b113_e {n : Nat} {r0 : (Int32) × J} {k49 : Int32 → Int32 → Int32 → J → Option ((Int32) × J)} {k81 : Int32 → Int32 → Int32 → Int32 → Int32 → J → Option ((Int32) × J)} {f : Nat} {l2 : Int32} {l5 : Int32} {l6 : Int32} {l7 : Int32} {σ : J} (hk49 : ∀ {l2 : Int32} {l3 : Int32} {l4 : Int32} {σ : J}, k49 l2 l3 l4 σ = some r0 → q_ex q_pr n 6 121 49 (q_L [(0, .inr (.inr (some (24, 0)))), (2, .inl l2), (3, .inl l3), (4, .inl l4)]) [] σ (M_tick_r r0)) (hk81 : ∀ {l2 : Int32} {l3 : Int32} {l5 : Int32} {l6 : Int32} {l7 : Int32} {σ : J}, k81 l2 l3 l5 l6 l7 σ = some r0 → q_ex q_pr n 6 121 81 (q_L [(0, .inr (.inr (some (24, 0)))), (2, .inl l2), (3, .inl l3), (5, .inl l5), (6, .inl l6), (7, .inl l7)]) [] σ (M_tick_r r0)) (h : M_tick_b113 n k49 k81 f l2 l5 l6 l7 σ = some r0) : q_ex q_pr n 6 121 113 (q_L [(0, .inr (.inr (some (24, 0)))), (2, .inl l2), (5, .inl l5), (6, .inl l6), (7, .inl l7)]) [] σ (M_tick_r r0) := by
  unfold M_tick_b113 at h
  refine q_ex_go 2 (pc' := 118) (L' := (q_L [(0, .inr (.inr (some (24, 0)))), (2, .inl l2), (5, .inl l5), (6, .inl l6), (7, .inl l7)])) (st' := [.inl 1]) (σ' := σ) (fun _ => rfl) ?_
  exact q_ex_ll (M_tick_b118_e hk49 hk81 h) ⟨rfl, rfl, rfl, rfl, rfl, trivial⟩
theorem M_tick_b81_e {n : Nat} {r0 : (Int32) × J} {k49 : Int32 → Int32 → Int32 → J → Option ((Int32) × J)} {k81 : Int32 → Int32 → Int32 → Int32 → Int32 → J → Option ((Int32) × J)} {f : Nat} {l2 : Int32} {l3 : Int32} {l5 : Int32} {l6 : Int32} {l7 : Int32} {σ : J} (hk49 : ∀ {l2 : Int32} {l3 : Int32} {l4 : Int32} {σ : J}, k49 l2 l3 l4 σ = some r0 → q_ex q_pr n 6 121 49 (q_L [(0, .inr (.inr (some (24, 0)))), (2, .inl l2), (3, .inl l3), (4, .inl l4)]) [] σ (M_tick_r r0)) (hk81 : ∀ {l2 : Int32} {l3 : Int32} {l5 : Int32} {l6 : Int32} {l7 : Int32} {σ : J}, k81 l2 l3 l5 l6 l7 σ = some r0 → q_ex q_pr n 6 121 81 (q_L [(0, .inr (.inr (some (24, 0)))), (2, .inl l2), (3, .inl l3), (5, .inl l5), (6, .inl l6), (7, .inl l7)]) [] σ (M_tick_r r0)) (h : M_tick_b81 n k49 k81 f l2 l3 l5 l6 l7 σ = some r0) : q_ex q_pr n 6 121 81 (q_L [(0, .inr (.inr (some (24, 0)))), (2, .inl l2), (3, .inl l3), (5, .inl l5), (6, .inl l6), (7, .inl l7)]) [] σ (M_tick_r r0) := by
  unfold M_tick_b81 at h
  refine q_ex_br 2 (c := l6 < 0) (pc1 := 122) (pc2 := 86) (L' := (q_L [(0, .inr (.inr (some (24, 0)))), (2, .inl l2), (3, .inl l3), (5, .inl l5), (6, .inl l6), (7, .inl l7)])) (st' := []) (σ' := σ) (fun _ => rfl) (fun hc => ?_) (fun hc => ?_)
  · rw [if_pos hc] at h
    exact q_ex_ll (M_tick_b122_e hk49 h) ⟨rfl, rfl, rfl, rfl, rfl, trivial⟩
  · rw [if_neg hc] at h
    refine q_by h (fun hz h => ?_)
    refine q_ex_gb 4 (pc' := 93) (L' := (q_L [(0, .inr (.inr (some (24, 0)))), (2, .inl l2), (3, .inl l3), (5, .inl l5), (6, .inl l6), (7, .inl l7)])) (st' := [.inl (σ.2.1 34 0 l6.toNatClampNeg)]) (σ' := σ) (fun _ => rfl) hz ?_
    refine q_ex_br 2 (c := (σ.2.1 34 0 l6.toNatClampNeg) < l7) (pc1 := 122) (pc2 := 98) (L' := (q_L [(0, .inr (.inr (some (24, 0)))), (2, .inl l2), (3, .inl l3), (5, .inl l5), (6, .inl l6), (7, .inl l7)])) (st' := []) (σ' := σ) (fun _ => rfl) (fun hc => ?_) (fun hc => ?_)
    · rw [if_pos hc] at h
      exact q_ex_ll (M_tick_b122_e hk49 h) ⟨rfl, rfl, rfl, rfl, rfl, trivial⟩
    · rw [if_neg hc] at h
      obtain ⟨q6, hq6, h⟩ := Option.bind_eq_some_iff.mp h
      refine q_ex_ca 3 (k1 := 86) (vs := [.inr (.inr (some (24, 0))), .inl l6]) (pc' := 104) (L' := (q_L [(0, .inr (.inr (some (24, 0)))), (2, .inl l2), (3, .inl l3), (5, .inl l5), (6, .inl l6), (7, .inl l7)])) (rest := []) (σ' := σ) (fun _ => rfl) (q_ex_dd (M_drop_e hq6) (Nat.le_of_ble_eq_true rfl)) rfl ?_
      refine q_ex_br 2 (c := 100 ≤ q6.1) (pc1 := 113) (pc2 := 109) (L' := (q_L [(0, .inr (.inr (some (24, 0)))), (2, .inl l2), (3, .inl l3), (5, .inl l5), (6, .inl l6), (7, .inl l7)])) (st' := []) (σ' := q6.2) (fun _ => rfl) (fun hc => ?_) (fun hc => ?_)
      · rw [if_pos hc] at h
        exact q_ex_ll (M_tick_b113_e hk49 hk81 h) ⟨rfl, rfl, rfl, rfl, rfl, trivial⟩
      · rw [if_neg hc] at h
        refine q_ex_br 2 (c := l3 = 0) (pc1 := 117) (pc2 := 113) (L' := (q_L [(0, .inr (.inr (some (24, 0)))), (2, .inl l2), (3, .inl l3), (5, .inl l5), (6, .inl l6), (7, .inl l7)])) (st' := []) (σ' := q6.2) (fun _ => rfl) (fun hc => ?_) (fun hc => ?_)
        · rw [if_pos hc] at h
          refine q_ex_go 1 (pc' := 118) (L' := (q_L [(0, .inr (.inr (some (24, 0)))), (2, .inl l2), (3, .inl l3), (5, .inl l5), (6, .inl l6), (7, .inl l7)])) (st' := [.inl 0]) (σ' := q6.2) (fun _ => rfl) ?_
          exact q_ex_ll (M_tick_b118_e hk49 hk81 h) ⟨rfl, rfl, rfl, rfl, rfl, trivial⟩
        · rw [if_neg hc] at h
          exact q_ex_ll (M_tick_b113_e hk49 hk81 h) ⟨rfl, rfl, rfl, rfl, rfl, trivial⟩
theorem M_tick_L81_e {n : Nat} {r0 : (Int32) × J} {k49 : Int32 → Int32 → Int32 → J → Option ((Int32) × J)} (hk49 : ∀ {l2 : Int32} {l3 : Int32} {l4 : Int32} {σ : J}, k49 l2 l3 l4 σ = some r0 → q_ex q_pr n 6 121 49 (q_L [(0, .inr (.inr (some (24, 0)))), (2, .inl l2), (3, .inl l3), (4, .inl l4)]) [] σ (M_tick_r r0)) (f : Nat) : ∀ {l2 : Int32} {l3 : Int32} {l5 : Int32} {l6 : Int32} {l7 : Int32} {σ : J}, M_tick_L81 n k49 f l2 l3 l5 l6 l7 σ = some r0 → q_ex q_pr n 6 121 81 (q_L [(0, .inr (.inr (some (24, 0)))), (2, .inl l2), (3, .inl l3), (5, .inl l5), (6, .inl l6), (7, .inl l7)]) [] σ (M_tick_r r0) := by
  induction f with
  | zero => intro l2 l3 l5 l6 l7 σ h; cases h
  | succ f ih =>
    intro l2 l3 l5 l6 l7 σ h
    exact M_tick_b81_e (f := f)  hk49 (fun h => ih h) h
theorem M_tick_b49_e {n : Nat} {r0 : (Int32) × J} {k49 : Int32 → Int32 → Int32 → J → Option ((Int32) × J)} {f : Nat} {l2 : Int32} {l3 : Int32} {l4 : Int32} {σ : J} (hk49 : ∀ {l2 : Int32} {l3 : Int32} {l4 : Int32} {σ : J}, k49 l2 l3 l4 σ = some r0 → q_ex q_pr n 6 121 49 (q_L [(0, .inr (.inr (some (24, 0)))), (2, .inl l2), (3, .inl l3), (4, .inl l4)]) [] σ (M_tick_r r0)) (h : M_tick_b49 n k49 f l2 l3 l4 σ = some r0) : q_ex q_pr n 6 121 49 (q_L [(0, .inr (.inr (some (24, 0)))), (2, .inl l2), (3, .inl l3), (4, .inl l4)]) [] σ (M_tick_r r0) := by
  unfold M_tick_b49 at h
  refine q_ex_br 2 (c := l4 < 0) (pc1 := 181) (pc2 := 54) (L' := (q_L [(0, .inr (.inr (some (24, 0)))), (2, .inl l2), (3, .inl l3), (4, .inl l4)])) (st' := []) (σ' := σ) (fun _ => rfl) (fun hc => ?_) (fun hc => ?_)
  · rw [if_pos hc] at h
    refine q_ex_br 2 (c := l3 = 0) (pc1 := 189) (pc2 := 185) (L' := (q_L [(0, .inr (.inr (some (24, 0)))), (2, .inl l2), (3, .inl l3), (4, .inl l4)])) (st' := []) (σ' := σ) (fun _ => rfl) (fun hc => ?_) (fun hc => ?_)
    · rw [if_pos hc] at h
      exact q_ex_ll (M_tick_b189_e h) ⟨rfl, trivial⟩
    · rw [if_neg hc] at h
      obtain ⟨q5, hq5, h⟩ := Option.bind_eq_some_iff.mp h
      refine q_ex_ca 2 (k1 := 115) (vs := [.inr (.inr (some (24, 0)))]) (pc' := 189) (L' := (q_L [(0, .inr (.inr (some (24, 0)))), (2, .inl l2), (3, .inl l3), (4, .inl l4)])) (rest := []) (σ' := σ) (fun _ => rfl) (q_ex_dd (M_serve_e hq5) (Nat.le_of_ble_eq_true rfl)) rfl ?_
      exact q_ex_ll (M_tick_b189_e h) ⟨rfl, trivial⟩
  · rw [if_neg hc] at h
    refine q_by h (fun hz h => ?_)
    refine q_ex_gb 4 (pc' := 61) (L' := (q_L [(0, .inr (.inr (some (24, 0)))), (2, .inl l2), (3, .inl l3), (4, .inl l4)])) (st' := [.inl (σ.2.1 25 0 l4.toNatClampNeg)]) (σ' := σ) (fun _ => rfl) hz ?_
    refine q_by h (fun hz h => ?_)
    refine q_ex_gb 5 (pc' := 70) (L' := (q_s1 (q_L [(0, .inr (.inr (some (24, 0)))), (2, .inl l2), (3, .inl l3), (4, .inl l4)]) 5 (.inl (σ.2.1 25 0 l4.toNatClampNeg)))) (st' := [.inl (σ.2.1 30 0 l4.toNatClampNeg)]) (σ' := σ) (fun _ => rfl) hz ?_
    refine q_by h (fun hz h => ?_)
    refine q_ex_gb 5 (pc' := 79) (L' := (q_s1 (q_s1 (q_L [(0, .inr (.inr (some (24, 0)))), (2, .inl l2), (3, .inl l3), (4, .inl l4)]) 5 (.inl (σ.2.1 25 0 l4.toNatClampNeg))) 6 (.inl (σ.2.1 30 0 l4.toNatClampNeg)))) (st' := [.inl (σ.2.1 31 0 l4.toNatClampNeg)]) (σ' := σ) (fun _ => rfl) hz ?_
    refine q_ex_go 1 (pc' := 81) (L' := (q_s1 (q_s1 (q_s1 (q_L [(0, .inr (.inr (some (24, 0)))), (2, .inl l2), (3, .inl l3), (4, .inl l4)]) 5 (.inl (σ.2.1 25 0 l4.toNatClampNeg))) 6 (.inl (σ.2.1 30 0 l4.toNatClampNeg))) 7 (.inl (σ.2.1 31 0 l4.toNatClampNeg)))) (st' := []) (σ' := σ) (fun _ => rfl) ?_
    exact q_ex_ll (M_tick_L81_e hk49 f h) ⟨rfl, rfl, rfl, rfl, rfl, rfl, trivial⟩
theorem M_tick_L49_e {n : Nat} {r0 : (Int32) × J} (f : Nat) : ∀ {l2 : Int32} {l3 : Int32} {l4 : Int32} {σ : J}, M_tick_L49 n f l2 l3 l4 σ = some r0 → q_ex q_pr n 6 121 49 (q_L [(0, .inr (.inr (some (24, 0)))), (2, .inl l2), (3, .inl l3), (4, .inl l4)]) [] σ (M_tick_r r0) := by
  induction f with
  | zero => intro l2 l3 l4 σ h; cases h
  | succ f ih =>
    intro l2 l3 l4 σ h
    exact M_tick_b49_e (f := f)  (fun h => ih h) h
theorem M_tick_b17_e {n : Nat} {r0 : (Int32) × J} {f : Nat} {l1 : Int32} {s1 : Int32} {σ : J} (h : M_tick_b17 n f l1 s1 σ = some r0) : q_ex q_pr n 6 121 17 (q_L [(0, .inr (.inr (some (24, 0)))), (1, .inl l1)]) [.inl s1, .inr (.inr (some (24, 0)))] σ (M_tick_r r0) := by
  unfold M_tick_b17 at h
  refine q_ex_go 1 (pc' := 20) (L' := (q_L [(0, .inr (.inr (some (24, 0)))), (1, .inl l1)])) (st' := []) (σ' := (q_sI σ 24 0 0 s1)) (fun _ => rfl) ?_
  refine q_nm (G := fun τ => q_ex q_pr n _ 121 20 (q_L [(0, .inr (.inr (some (24, 0)))), (1, .inl l1)]) [] τ _) h (fun σ2 h => ?_)
  refine q_ex_br 3 (c := (σ2.1 24 0 0) ≤ 0) (pc1 := 29) (pc2 := 27) (L' := (q_L [(0, .inr (.inr (some (24, 0)))), (1, .inl l1)])) (st' := []) (σ' := σ2) (fun _ => rfl) (fun hc => ?_) (fun hc => ?_)
  · rw [if_pos hc] at h
    refine q_ex_go 6 (pc' := 39) (L' := (q_L [(0, .inr (.inr (some (24, 0)))), (1, .inl l1)])) (st' := []) (σ' := (q_sI σ2 24 3 0 ((σ2.1 24 3 0) + l1))) (fun _ => rfl) ?_
    refine q_nm (G := fun τ => q_ex q_pr n _ 121 39 (q_L [(0, .inr (.inr (some (24, 0)))), (1, .inl l1)]) [] τ _) h (fun σ3 h => ?_)
    obtain ⟨q4, hq4, h⟩ := Option.bind_eq_some_iff.mp h
    refine q_ex_ca 6 (k1 := 87) (vs := [.inr (.inr (some (24, 0)))]) (pc' := 47) (L' := (q_s1 (q_s1 (q_L [(0, .inr (.inr (some (24, 0)))), (1, .inl l1)]) 2 (.inl 0)) 3 (.inl 0))) (rest := []) (σ' := σ3) (fun _ => rfl) (q_ex_dd (M_ending_e hq4) (Nat.le_of_ble_eq_true rfl)) rfl ?_
    refine q_ex_go 1 (pc' := 49) (L' := (q_s1 (q_s1 (q_s1 (q_L [(0, .inr (.inr (some (24, 0)))), (1, .inl l1)]) 2 (.inl 0)) 3 (.inl 0)) 4 (.inl q4.1))) (st' := []) (σ' := q4.2) (fun _ => rfl) ?_
    exact q_ex_ll (M_tick_L49_e f h) ⟨rfl, rfl, rfl, rfl, trivial⟩
  · rw [if_neg hc] at h
    refine q_ex_go 1 (pc' := 28) (L' := (q_L [(0, .inr (.inr (some (24, 0)))), (1, .inl l1)])) (st' := [.inl 0]) (σ' := σ2) (fun _ => rfl) ?_
    cases h
    exact ⟨1, rfl⟩
theorem M_tick_b0_e {n : Nat} {r0 : (Int32) × J} {f : Nat} {l1 : Int32} {σ : J} (h : M_tick_b0 n f l1 σ = some r0) : q_ex q_pr n 6 121 0 (q_L [(0, .inr (.inr (some (24, 0)))), (1, .inl l1)]) [] σ (M_tick_r r0) := by
  unfold M_tick_b0 at h
  obtain ⟨q1, hq1, h⟩ := Option.bind_eq_some_iff.mp h
  refine q_ex_ca 5 (k1 := 122) (vs := [.inr (.inl l1.toInt64), .inr (.inl 1000)]) (pc' := 9) (L' := (q_L [(0, .inr (.inr (some (24, 0)))), (1, .inl l1)])) (rest := [.inr (.inr (some (24, 0)))]) (σ' := σ) (fun _ => rfl) (q_ex_dd (M_within_e hq1) (Nat.le_of_ble_eq_true rfl)) rfl ?_
  refine q_ex_br 1 (c := q1.1 = 0) (pc1 := 16) (pc2 := 12) (L' := (q_L [(0, .inr (.inr (some (24, 0)))), (1, .inl l1)])) (st' := [.inr (.inr (some (24, 0)))]) (σ' := q1.2) (fun _ => rfl) (fun hc => ?_) (fun hc => ?_)
  · rw [if_pos hc] at h
    refine q_ex_go 1 (pc' := 17) (L' := (q_L [(0, .inr (.inr (some (24, 0)))), (1, .inl l1)])) (st' := [.inl 1, .inr (.inr (some (24, 0)))]) (σ' := q1.2) (fun _ => rfl) ?_
    exact q_ex_ll (M_tick_b17_e h) ⟨rfl, rfl, trivial⟩
  · rw [if_neg hc] at h
    refine q_ex_go 2 (pc' := 17) (L' := (q_L [(0, .inr (.inr (some (24, 0)))), (1, .inl l1)])) (st' := [.inl 0, .inr (.inr (some (24, 0)))]) (σ' := q1.2) (fun _ => rfl) ?_
    exact q_ex_ll (M_tick_b17_e h) ⟨rfl, rfl, trivial⟩
theorem M_tick_e {n : Nat} {r0 : (Int32) × J} {f : Nat} {x1 : Int32} {σ : J} (h : M_tick n f x1 σ = some r0) : q_ex q_pr n 6 121 0 (q_args 0 [.inr (.inr (some (24, 0))), .inl x1]) [] σ (M_tick_r r0) := q_ex_ll (M_tick_b0_e h) ⟨rfl, rfl, trivial⟩
