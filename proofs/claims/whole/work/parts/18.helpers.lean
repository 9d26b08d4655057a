/-! Functions of methods, and their runs. Ours, written by fun.py -/
def L_abandon_r : (Int32 ⊕ Nat) × J → Res := fun q => ((match q.1 with | .inl r => .inl (some (.inl r)) | .inr e => .inr e), q.2)
-- 123: L_abandon
def L_abandon_b0 (n : Nat) (f : Nat) (l1 : Int32) (σ : J) : Option ((Int32 ⊕ Nat) × J) := (JB_abandon n f l1 σ).bind fun q1 => (match q1.1 with | .inl r1 => if q_in 0 1 = true then q_bs (q_sL q1.2 23 0 (vp_updL (q1.2.2.2.1 23 0) ((0 : Int32).toNatClampNeg) r1.toInt64)) fun σ2 => some (.inl 0, σ2) else none | .inr k0 => some (.inr k0, q1.2))
def L_abandon (n : Nat) (f : Nat) (x1 : Int32) (σ : J) : Option ((Int32 ⊕ Nat) × J) := L_abandon_b0 n f x1 σ
theorem L_abandon_b0_e {n : Nat} {r0 : (Int32 ⊕ Nat) × J} {f : Nat} {l1 : Int32} {σ : J} (h : L_abandon_b0 n f l1 σ = some r0) : q_ex q_pr n 10 123 0 (q_L [(0, .inr (.inr (some (0, 0)))), (1, .inl l1), (2, .inr (.inr (some (23, 0))))]) [] σ (L_abandon_r r0) := by
  unfold L_abandon_b0 at h
  obtain ⟨q1, hq1, h⟩ := Option.bind_eq_some_iff.mp h
  obtain ⟨q1, σ1⟩ := q1
  cases q1 with
  | inr k0 =>
    cases h
    exact q_ex_cx 5 (k1 := 0) (vs := [.inr (.inr (some (0, 0))), .inl l1]) (pc' := 7) (L' := (q_L [(0, .inr (.inr (some (0, 0)))), (1, .inl l1), (2, .inr (.inr (some (23, 0))))])) (rest := [.inl 0, .inr (.inr (some (23, 0)))]) (σ' := σ) (fun _ => rfl) (q_ex_dd (JB_abandon_e hq1) (Nat.le_of_ble_eq_true rfl))
  | inl r1 =>
    dsimp only at h
    refine q_ex_ca 5 (k1 := 0) (vs := [.inr (.inr (some (0, 0))), .inl l1]) (pc' := 7) (L' := (q_L [(0, .inr (.inr (some (0, 0)))), (1, .inl l1), (2, .inr (.inr (some (23, 0))))])) (rest := [.inl 0, .inr (.inr (some (23, 0)))]) (σ' := σ) (fun _ => rfl) (q_ex_dd (JB_abandon_e hq1) (Nat.le_of_ble_eq_true rfl)) rfl ?_
    refine q_by h (fun hz h => ?_)
    refine q_ex_gb 2 (pc' := 9) (L' := (q_L [(0, .inr (.inr (some (0, 0)))), (1, .inl l1), (2, .inr (.inr (some (23, 0))))])) (st' := []) (σ' := (q_sL σ1 23 0 (vp_updL (σ1.2.2.1 23 0) ((0 : Int32).toNatClampNeg) r1.toInt64))) (fun _ => rfl) hz ?_
    refine q_nm (G := fun τ => q_ex q_pr n _ 123 9 (q_L [(0, .inr (.inr (some (0, 0)))), (1, .inl l1), (2, .inr (.inr (some (23, 0))))]) [] τ _) h (fun σ2 h => ?_)
    refine q_ex_go 2 (pc' := 19) (L' := (q_L [(0, .inr (.inr (some (0, 0)))), (1, .inl l1), (2, .inr (.inr (some (23, 0))))])) (st' := [.inl 0]) (σ' := σ2) (fun _ => rfl) ?_
    cases h
    exact ⟨1, rfl⟩
theorem L_abandon_e {n : Nat} {r0 : (Int32 ⊕ Nat) × J} {f : Nat} {x1 : Int32} {σ : J} (h : L_abandon n f x1 σ = some r0) : q_ex q_pr n 10 123 0 (q_args 0 [.inr (.inr (some (0, 0))), .inl x1, .inr (.inr (some (23, 0)))]) [] σ (L_abandon_r r0) := q_ex_ll (L_abandon_b0_e h) ⟨rfl, rfl, rfl, trivial⟩
def L_collect_r : (Int32 ⊕ Nat) × J → Res := fun q => ((match q.1 with | .inl r => .inl (some (.inl r)) | .inr e => .inr e), q.2)
-- 124: L_collect
def L_collect_b0 (n : Nat) (l1 : Int32) (σ : J) : Option ((Int32 ⊕ Nat) × J) := (JB_collect n l1 σ).bind fun q1 => (match q1.1 with | .inl r1 => if q_in 0 1 = true then q_bs (q_sL q1.2 23 0 (vp_updL (q1.2.2.2.1 23 0) ((0 : Int32).toNatClampNeg) r1.toInt64)) fun σ2 => some (.inl 0, σ2) else none | .inr k0 => some (.inr k0, q1.2))
def L_collect (n : Nat) (x1 : Int32) (σ : J) : Option ((Int32 ⊕ Nat) × J) := L_collect_b0 n x1 σ
theorem L_collect_b0_e {n : Nat} {r0 : (Int32 ⊕ Nat) × J} {l1 : Int32} {σ : J} (h : L_collect_b0 n l1 σ = some r0) : q_ex q_pr n 2 124 0 (q_L [(0, .inr (.inr (some (0, 0)))), (1, .inl l1), (2, .inr (.inr (some (23, 0))))]) [] σ (L_collect_r r0) := by
  unfold L_collect_b0 at h
  obtain ⟨q1, hq1, h⟩ := Option.bind_eq_some_iff.mp h
  obtain ⟨q1, σ1⟩ := q1
  cases q1 with
  | inr k0 =>
    cases h
    exact q_ex_cx 5 (k1 := 3) (vs := [.inr (.inr (some (0, 0))), .inl l1]) (pc' := 7) (L' := (q_L [(0, .inr (.inr (some (0, 0)))), (1, .inl l1), (2, .inr (.inr (some (23, 0))))])) (rest := [.inl 0, .inr (.inr (some (23, 0)))]) (σ' := σ) (fun _ => rfl) (q_ex_dd (JB_collect_e hq1) (Nat.le_of_ble_eq_true rfl))
  | inl r1 =>
    dsimp only at h
    refine q_ex_ca 5 (k1 := 3) (vs := [.inr (.inr (some (0, 0))), .inl l1]) (pc' := 7) (L' := (q_L [(0, .inr (.inr (some (0, 0)))), (1, .inl l1), (2, .inr (.inr (some (23, 0))))])) (rest := [.inl 0, .inr (.inr (some (23, 0)))]) (σ' := σ) (fun _ => rfl) (q_ex_dd (JB_collect_e hq1) (Nat.le_of_ble_eq_true rfl)) rfl ?_
    refine q_by h (fun hz h => ?_)
    refine q_ex_gb 2 (pc' := 9) (L' := (q_L [(0, .inr (.inr (some (0, 0)))), (1, .inl l1), (2, .inr (.inr (some (23, 0))))])) (st' := []) (σ' := (q_sL σ1 23 0 (vp_updL (σ1.2.2.1 23 0) ((0 : Int32).toNatClampNeg) r1.toInt64))) (fun _ => rfl) hz ?_
    refine q_nm (G := fun τ => q_ex q_pr n _ 124 9 (q_L [(0, .inr (.inr (some (0, 0)))), (1, .inl l1), (2, .inr (.inr (some (23, 0))))]) [] τ _) h (fun σ2 h => ?_)
    refine q_ex_go 2 (pc' := 16) (L' := (q_L [(0, .inr (.inr (some (0, 0)))), (1, .inl l1), (2, .inr (.inr (some (23, 0))))])) (st' := [.inl 0]) (σ' := σ2) (fun _ => rfl) ?_
    cases h
    exact ⟨1, rfl⟩
theorem L_collect_e {n : Nat} {r0 : (Int32 ⊕ Nat) × J} {x1 : Int32} {σ : J} (h : L_collect n x1 σ = some r0) : q_ex q_pr n 2 124 0 (q_args 0 [.inr (.inr (some (0, 0))), .inl x1, .inr (.inr (some (23, 0)))]) [] σ (L_collect_r r0) := q_ex_ll (L_collect_b0_e h) ⟨rfl, rfl, rfl, trivial⟩
def L_commit_r : (Int32 ⊕ Nat) × J → Res := fun q => ((match q.1 with | .inl r => .inl (some (.inl r)) | .inr e => .inr e), q.2)
-- 125: L_commit
def L_commit_b0 (n : Nat) (f : Nat) (l1 : Int32) (σ : J) : Option ((Int32 ⊕ Nat) × J) := (JB_commit n f l1 σ).bind fun q1 => (match q1.1 with | .inl r1 => if q_in 0 1 = true then q_bs (q_sL q1.2 23 0 (vp_updL (q1.2.2.2.1 23 0) ((0 : Int32).toNatClampNeg) r1.toInt64)) fun σ2 => some (.inl 0, σ2) else none | .inr k0 => some (.inr k0, q1.2))
def L_commit (n : Nat) (f : Nat) (x1 : Int32) (σ : J) : Option ((Int32 ⊕ Nat) × J) := L_commit_b0 n f x1 σ
theorem L_commit_b0_e {n : Nat} {r0 : (Int32 ⊕ Nat) × J} {f : Nat} {l1 : Int32} {σ : J} (h : L_commit_b0 n f l1 σ = some r0) : q_ex q_pr n 11 125 0 (q_L [(0, .inr (.inr (some (0, 0)))), (1, .inl l1), (2, .inr (.inr (some (23, 0))))]) [] σ (L_commit_r r0) := by
  unfold L_commit_b0 at h
  obtain ⟨q1, hq1, h⟩ := Option.bind_eq_some_iff.mp h
  obtain ⟨q1, σ1⟩ := q1
  cases q1 with
  | inr k0 =>
    cases h
    exact q_ex_cx 5 (k1 := 5) (vs := [.inr (.inr (some (0, 0))), .inl l1]) (pc' := 7) (L' := (q_L [(0, .inr (.inr (some (0, 0)))), (1, .inl l1), (2, .inr (.inr (some (23, 0))))])) (rest := [.inl 0, .inr (.inr (some (23, 0)))]) (σ' := σ) (fun _ => rfl) (q_ex_dd (JB_commit_e hq1) (Nat.le_of_ble_eq_true rfl))
  | inl r1 =>
    dsimp only at h
    refine q_ex_ca 5 (k1 := 5) (vs := [.inr (.inr (some (0, 0))), .inl l1]) (pc' := 7) (L' := (q_L [(0, .inr (.inr (some (0, 0)))), (1, .inl l1), (2, .inr (.inr (some (23, 0))))])) (rest := [.inl 0, .inr (.inr (some (23, 0)))]) (σ' := σ) (fun _ => rfl) (q_ex_dd (JB_commit_e hq1) (Nat.le_of_ble_eq_true rfl)) rfl ?_
    refine q_by h (fun hz h => ?_)
    refine q_ex_gb 2 (pc' := 9) (L' := (q_L [(0, .inr (.inr (some (0, 0)))), (1, .inl l1), (2, .inr (.inr (some (23, 0))))])) (st' := []) (σ' := (q_sL σ1 23 0 (vp_updL (σ1.2.2.1 23 0) ((0 : Int32).toNatClampNeg) r1.toInt64))) (fun _ => rfl) hz ?_
    refine q_nm (G := fun τ => q_ex q_pr n _ 125 9 (q_L [(0, .inr (.inr (some (0, 0)))), (1, .inl l1), (2, .inr (.inr (some (23, 0))))]) [] τ _) h (fun σ2 h => ?_)
    refine q_ex_go 2 (pc' := 19) (L' := (q_L [(0, .inr (.inr (some (0, 0)))), (1, .inl l1), (2, .inr (.inr (some (23, 0))))])) (st' := [.inl 0]) (σ' := σ2) (fun _ => rfl) ?_
    cases h
    exact ⟨1, rfl⟩
theorem L_commit_e {n : Nat} {r0 : (Int32 ⊕ Nat) × J} {f : Nat} {x1 : Int32} {σ : J} (h : L_commit n f x1 σ = some r0) : q_ex q_pr n 11 125 0 (q_args 0 [.inr (.inr (some (0, 0))), .inl x1, .inr (.inr (some (23, 0)))]) [] σ (L_commit_r r0) := q_ex_ll (L_commit_b0_e h) ⟨rfl, rfl, rfl, trivial⟩
def L_field_r : (Int32 ⊕ Nat) × J → Res := fun q => ((match q.1 with | .inl r => .inl (some (.inl r)) | .inr e => .inr e), q.2)
-- 126: L_field
def L_field_b0 (n : Nat) (l1 : Int32) (l2 : Int32) (l3 : Int64) (σ : J) : Option ((Int32 ⊕ Nat) × J) := (JB_field n l1 l2 l3 σ).bind fun q1 => (match q1.1 with | .inl r1 => if q_in 0 1 = true then q_bs (q_sL q1.2 23 0 (vp_updL (q1.2.2.2.1 23 0) ((0 : Int32).toNatClampNeg) r1.toInt64)) fun σ2 => some (.inl 0, σ2) else none | .inr k0 => some (.inr k0, q1.2))
def L_field (n : Nat) (x1 : Int32) (x2 : Int32) (x3 : Int64) (σ : J) : Option ((Int32 ⊕ Nat) × J) := L_field_b0 n x1 x2 x3 σ
theorem L_field_b0_e {n : Nat} {r0 : (Int32 ⊕ Nat) × J} {l1 : Int32} {l2 : Int32} {l3 : Int64} {σ : J} (h : L_field_b0 n l1 l2 l3 σ = some r0) : q_ex q_pr n 3 126 0 (q_L [(0, .inr (.inr (some (0, 0)))), (1, .inl l1), (2, .inl l2), (3, .inr (.inl l3)), (5, .inr (.inr (some (23, 0))))]) [] σ (L_field_r r0) := by
  unfold L_field_b0 at h
  obtain ⟨q1, hq1, h⟩ := Option.bind_eq_some_iff.mp h
  obtain ⟨q1, σ1⟩ := q1
  cases q1 with
  | inr k0 =>
    cases h
    exact q_ex_cx 7 (k1 := 9) (vs := [.inr (.inr (some (0, 0))), .inl l1, .inl l2, .inr (.inl l3)]) (pc' := 10) (L' := (q_L [(0, .inr (.inr (some (0, 0)))), (1, .inl l1), (2, .inl l2), (3, .inr (.inl l3)), (5, .inr (.inr (some (23, 0))))])) (rest := [.inl 0, .inr (.inr (some (23, 0)))]) (σ' := σ) (fun _ => rfl) (q_ex_dd (JB_field_e hq1) (Nat.le_of_ble_eq_true rfl))
  | inl r1 =>
    dsimp only at h
    refine q_ex_ca 7 (k1 := 9) (vs := [.inr (.inr (some (0, 0))), .inl l1, .inl l2, .inr (.inl l3)]) (pc' := 10) (L' := (q_L [(0, .inr (.inr (some (0, 0)))), (1, .inl l1), (2, .inl l2), (3, .inr (.inl l3)), (5, .inr (.inr (some (23, 0))))])) (rest := [.inl 0, .inr (.inr (some (23, 0)))]) (σ' := σ) (fun _ => rfl) (q_ex_dd (JB_field_e hq1) (Nat.le_of_ble_eq_true rfl)) rfl ?_
    refine q_by h (fun hz h => ?_)
    refine q_ex_gb 2 (pc' := 12) (L' := (q_L [(0, .inr (.inr (some (0, 0)))), (1, .inl l1), (2, .inl l2), (3, .inr (.inl l3)), (5, .inr (.inr (some (23, 0))))])) (st' := []) (σ' := (q_sL σ1 23 0 (vp_updL (σ1.2.2.1 23 0) ((0 : Int32).toNatClampNeg) r1.toInt64))) (fun _ => rfl) hz ?_
    refine q_nm (G := fun τ => q_ex q_pr n _ 126 12 (q_L [(0, .inr (.inr (some (0, 0)))), (1, .inl l1), (2, .inl l2), (3, .inr (.inl l3)), (5, .inr (.inr (some (23, 0))))]) [] τ _) h (fun σ2 h => ?_)
    refine q_ex_go 2 (pc' := 32) (L' := (q_L [(0, .inr (.inr (some (0, 0)))), (1, .inl l1), (2, .inl l2), (3, .inr (.inl l3)), (5, .inr (.inr (some (23, 0))))])) (st' := [.inl 0]) (σ' := σ2) (fun _ => rfl) ?_
    cases h
    exact ⟨1, rfl⟩
theorem L_field_e {n : Nat} {r0 : (Int32 ⊕ Nat) × J} {x1 : Int32} {x2 : Int32} {x3 : Int64} {σ : J} (h : L_field n x1 x2 x3 σ = some r0) : q_ex q_pr n 3 126 0 (q_args 0 [.inr (.inr (some (0, 0))), .inl x1, .inl x2, .inr (.inl x3), .inr (.inr (some (23, 0)))]) [] σ (L_field_r r0) := q_ex_ll (L_field_b0_e h) ⟨rfl, rfl, rfl, rfl, rfl, trivial⟩
def L_find_r : (Int32 ⊕ Nat) × J → Res := fun q => ((match q.1 with | .inl r => .inl (some (.inl r)) | .inr e => .inr e), q.2)
-- 127: L_find
def L_find_b0 (n : Nat) (f : Nat) (l1 : Int32) (l2 : Int32) (l3 : Int32) (σ : J) : Option ((Int32 ⊕ Nat) × J) := (JB_find n f l1 l2 l3 σ).bind fun q1 => (match q1.1 with | .inl r1 => if q_in 0 1 = true then q_bs (q_sL q1.2 23 0 (vp_updL (q1.2.2.2.1 23 0) ((0 : Int32).toNatClampNeg) r1.toInt64)) fun σ2 => some (.inl 0, σ2) else none | .inr k0 => some (.inr k0, q1.2))
def L_find (n : Nat) (f : Nat) (x1 : Int32) (x2 : Int32) (x3 : Int32) (σ : J) : Option ((Int32 ⊕ Nat) × J) := L_find_b0 n f x1 x2 x3 σ
theorem L_find_b0_e {n : Nat} {r0 : (Int32 ⊕ Nat) × J} {f : Nat} {l1 : Int32} {l2 : Int32} {l3 : Int32} {σ : J} (h : L_find_b0 n f l1 l2 l3 σ = some r0) : q_ex q_pr n 9 127 0 (q_L [(0, .inr (.inr (some (0, 0)))), (1, .inl l1), (2, .inl l2), (3, .inl l3), (4, .inr (.inr (some (23, 0))))]) [] σ (L_find_r r0) := by
  unfold L_find_b0 at h
  obtain ⟨q1, hq1, h⟩ := Option.bind_eq_some_iff.mp h
  obtain ⟨q1, σ1⟩ := q1
  cases q1 with
  | inr k0 =>
    cases h
    exact q_ex_cx 7 (k1 := 10) (vs := [.inr (.inr (some (0, 0))), .inl l1, .inl l2, .inl l3]) (pc' := 10) (L' := (q_L [(0, .inr (.inr (some (0, 0)))), (1, .inl l1), (2, .inl l2), (3, .inl l3), (4, .inr (.inr (some (23, 0))))])) (rest := [.inl 0, .inr (.inr (some (23, 0)))]) (σ' := σ) (fun _ => rfl) (q_ex_dd (JB_find_e hq1) (Nat.le_of_ble_eq_true rfl))
  | inl r1 =>
    dsimp only at h
    refine q_ex_ca 7 (k1 := 10) (vs := [.inr (.inr (some (0, 0))), .inl l1, .inl l2, .inl l3]) (pc' := 10) (L' := (q_L [(0, .inr (.inr (some (0, 0)))), (1, .inl l1), (2, .inl l2), (3, .inl l3), (4, .inr (.inr (some (23, 0))))])) (rest := [.inl 0, .inr (.inr (some (23, 0)))]) (σ' := σ) (fun _ => rfl) (q_ex_dd (JB_find_e hq1) (Nat.le_of_ble_eq_true rfl)) rfl ?_
    refine q_by h (fun hz h => ?_)
    refine q_ex_gb 2 (pc' := 12) (L' := (q_L [(0, .inr (.inr (some (0, 0)))), (1, .inl l1), (2, .inl l2), (3, .inl l3), (4, .inr (.inr (some (23, 0))))])) (st' := []) (σ' := (q_sL σ1 23 0 (vp_updL (σ1.2.2.1 23 0) ((0 : Int32).toNatClampNeg) r1.toInt64))) (fun _ => rfl) hz ?_
    refine q_nm (G := fun τ => q_ex q_pr n _ 127 12 (q_L [(0, .inr (.inr (some (0, 0)))), (1, .inl l1), (2, .inl l2), (3, .inl l3), (4, .inr (.inr (some (23, 0))))]) [] τ _) h (fun σ2 h => ?_)
    refine q_ex_go 2 (pc' := 28) (L' := (q_L [(0, .inr (.inr (some (0, 0)))), (1, .inl l1), (2, .inl l2), (3, .inl l3), (4, .inr (.inr (some (23, 0))))])) (st' := [.inl 0]) (σ' := σ2) (fun _ => rfl) ?_
    cases h
    exact ⟨1, rfl⟩
theorem L_find_e {n : Nat} {r0 : (Int32 ⊕ Nat) × J} {f : Nat} {x1 : Int32} {x2 : Int32} {x3 : Int32} {σ : J} (h : L_find n f x1 x2 x3 σ = some r0) : q_ex q_pr n 9 127 0 (q_args 0 [.inr (.inr (some (0, 0))), .inl x1, .inl x2, .inl x3, .inr (.inr (some (23, 0)))]) [] σ (L_find_r r0) := q_ex_ll (L_find_b0_e h) ⟨rfl, rfl, rfl, rfl, rfl, trivial⟩
def L_fold_r : (Int32 ⊕ Nat) × J → Res := fun q => ((match q.1 with | .inl r => .inl (some (.inl r)) | .inr e => .inr e), q.2)
-- 128: L_fold
def L_fold_b0 (n : Nat) (f : Nat) (l1 : Int32) (l2 : Int32) (l3 : Int32) (σ : J) : Option ((Int32 ⊕ Nat) × J) := (JB_fold n f l1 l2 l3 σ).bind fun q1 => (match q1.1 with | .inl r1 => if q_in 0 1 = true then q_bs (q_sL q1.2 23 0 (vp_updL (q1.2.2.2.1 23 0) ((0 : Int32).toNatClampNeg) r1)) fun σ2 => some (.inl 0, σ2) else none | .inr k0 => some (.inr k0, q1.2))
def L_fold (n : Nat) (f : Nat) (x1 : Int32) (x2 : Int32) (x3 : Int32) (σ : J) : Option ((Int32 ⊕ Nat) × J) := L_fold_b0 n f x1 x2 x3 σ
theorem L_fold_b0_e {n : Nat} {r0 : (Int32 ⊕ Nat) × J} {f : Nat} {l1 : Int32} {l2 : Int32} {l3 : Int32} {σ : J} (h : L_fold_b0 n f l1 l2 l3 σ = some r0) : q_ex q_pr n 5 128 0 (q_L [(0, .inr (.inr (some (0, 0)))), (1, .inl l1), (2, .inl l2), (3, .inl l3), (4, .inr (.inr (some (23, 0))))]) [] σ (L_fold_r r0) := by
  unfold L_fold_b0 at h
  obtain ⟨q1, hq1, h⟩ := Option.bind_eq_some_iff.mp h
  obtain ⟨q1, σ1⟩ := q1
  cases q1 with
  | inr k0 =>
    cases h
    exact q_ex_cx 7 (k1 := 12) (vs := [.inr (.inr (some (0, 0))), .inl l1, .inl l2, .inl l3]) (pc' := 10) (L' := (q_L [(0, .inr (.inr (some (0, 0)))), (1, .inl l1), (2, .inl l2), (3, .inl l3), (4, .inr (.inr (some (23, 0))))])) (rest := [.inl 0, .inr (.inr (some (23, 0)))]) (σ' := σ) (fun _ => rfl) (q_ex_dd (JB_fold_e hq1) (Nat.le_of_ble_eq_true rfl))
  | inl r1 =>
    dsimp only at h
    refine q_ex_ca 7 (k1 := 12) (vs := [.inr (.inr (some (0, 0))), .inl l1, .inl l2, .inl l3]) (pc' := 10) (L' := (q_L [(0, .inr (.inr (some (0, 0)))), (1, .inl l1), (2, .inl l2), (3, .inl l3), (4, .inr (.inr (some (23, 0))))])) (rest := [.inl 0, .inr (.inr (some (23, 0)))]) (σ' := σ) (fun _ => rfl) (q_ex_dd (JB_fold_e hq1) (Nat.le_of_ble_eq_true rfl)) rfl ?_
    refine q_by h (fun hz h => ?_)
    refine q_ex_gb 1 (pc' := 11) (L' := (q_L [(0, .inr (.inr (some (0, 0)))), (1, .inl l1), (2, .inl l2), (3, .inl l3), (4, .inr (.inr (some (23, 0))))])) (st' := []) (σ' := (q_sL σ1 23 0 (vp_updL (σ1.2.2.1 23 0) ((0 : Int32).toNatClampNeg) r1))) (fun _ => rfl) hz ?_
    refine q_nm (G := fun τ => q_ex q_pr n _ 128 11 (q_L [(0, .inr (.inr (some (0, 0)))), (1, .inl l1), (2, .inl l2), (3, .inl l3), (4, .inr (.inr (some (23, 0))))]) [] τ _) h (fun σ2 h => ?_)
    refine q_ex_go 2 (pc' := 27) (L' := (q_L [(0, .inr (.inr (some (0, 0)))), (1, .inl l1), (2, .inl l2), (3, .inl l3), (4, .inr (.inr (some (23, 0))))])) (st' := [.inl 0]) (σ' := σ2) (fun _ => rfl) ?_
    cases h
    exact ⟨1, rfl⟩
theorem L_fold_e {n : Nat} {r0 : (Int32 ⊕ Nat) × J} {f : Nat} {x1 : Int32} {x2 : Int32} {x3 : Int32} {σ : J} (h : L_fold n f x1 x2 x3 σ = some r0) : q_ex q_pr n 5 128 0 (q_args 0 [.inr (.inr (some (0, 0))), .inl x1, .inl x2, .inl x3, .inr (.inr (some (23, 0)))]) [] σ (L_fold_r r0) := q_ex_ll (L_fold_b0_e h) ⟨rfl, rfl, rfl, rfl, rfl, trivial⟩
def L_forget_r : (Int32 ⊕ Nat) × J → Res := fun q => ((match q.1 with | .inl r => .inl (some (.inl r)) | .inr e => .inr e), q.2)
-- 129: L_forget
def L_forget_b0 (n : Nat) (l1 : Int32) (l2 : Int32) (σ : J) : Option ((Int32 ⊕ Nat) × J) := (JB_forget n l1 l2 σ).bind fun q1 => (match q1.1 with | .inl r1 => if q_in 0 1 = true then q_bs (q_sL q1.2 23 0 (vp_updL (q1.2.2.2.1 23 0) ((0 : Int32).toNatClampNeg) r1.toInt64)) fun σ2 => some (.inl 0, σ2) else none | .inr k0 => some (.inr k0, q1.2))
def L_forget (n : Nat) (x1 : Int32) (x2 : Int32) (σ : J) : Option ((Int32 ⊕ Nat) × J) := L_forget_b0 n x1 x2 σ
theorem L_forget_b0_e {n : Nat} {r0 : (Int32 ⊕ Nat) × J} {l1 : Int32} {l2 : Int32} {σ : J} (h : L_forget_b0 n l1 l2 σ = some r0) : q_ex q_pr n 3 129 0 (q_L [(0, .inr (.inr (some (0, 0)))), (1, .inl l1), (2, .inl l2), (3, .inr (.inr (some (23, 0))))]) [] σ (L_forget_r r0) := by
  unfold L_forget_b0 at h
  obtain ⟨q1, hq1, h⟩ := Option.bind_eq_some_iff.mp h
  obtain ⟨q1, σ1⟩ := q1
  cases q1 with
  | inr k0 =>
    cases h
    exact q_ex_cx 6 (k1 := 13) (vs := [.inr (.inr (some (0, 0))), .inl l1, .inl l2]) (pc' := 8) (L' := (q_L [(0, .inr (.inr (some (0, 0)))), (1, .inl l1), (2, .inl l2), (3, .inr (.inr (some (23, 0))))])) (rest := [.inl 0, .inr (.inr (some (23, 0)))]) (σ' := σ) (fun _ => rfl) (q_ex_dd (JB_forget_e hq1) (Nat.le_of_ble_eq_true rfl))
  | inl r1 =>
    dsimp only at h
    refine q_ex_ca 6 (k1 := 13) (vs := [.inr (.inr (some (0, 0))), .inl l1, .inl l2]) (pc' := 8) (L' := (q_L [(0, .inr (.inr (some (0, 0)))), (1, .inl l1), (2, .inl l2), (3, .inr (.inr (some (23, 0))))])) (rest := [.inl 0, .inr (.inr (some (23, 0)))]) (σ' := σ) (fun _ => rfl) (q_ex_dd (JB_forget_e hq1) (Nat.le_of_ble_eq_true rfl)) rfl ?_
    refine q_by h (fun hz h => ?_)
    refine q_ex_gb 2 (pc' := 10) (L' := (q_L [(0, .inr (.inr (some (0, 0)))), (1, .inl l1), (2, .inl l2), (3, .inr (.inr (some (23, 0))))])) (st' := []) (σ' := (q_sL σ1 23 0 (vp_updL (σ1.2.2.1 23 0) ((0 : Int32).toNatClampNeg) r1.toInt64))) (fun _ => rfl) hz ?_
    refine q_nm (G := fun τ => q_ex q_pr n _ 129 10 (q_L [(0, .inr (.inr (some (0, 0)))), (1, .inl l1), (2, .inl l2), (3, .inr (.inr (some (23, 0))))]) [] τ _) h (fun σ2 h => ?_)
    refine q_ex_go 2 (pc' := 26) (L' := (q_L [(0, .inr (.inr (some (0, 0)))), (1, .inl l1), (2, .inl l2), (3, .inr (.inr (some (23, 0))))])) (st' := [.inl 0]) (σ' := σ2) (fun _ => rfl) ?_
    cases h
    exact ⟨1, rfl⟩
theorem L_forget_e {n : Nat} {r0 : (Int32 ⊕ Nat) × J} {x1 : Int32} {x2 : Int32} {σ : J} (h : L_forget n x1 x2 σ = some r0) : q_ex q_pr n 3 129 0 (q_args 0 [.inr (.inr (some (0, 0))), .inl x1, .inl x2, .inr (.inr (some (23, 0)))]) [] σ (L_forget_r r0) := q_ex_ll (L_forget_b0_e h) ⟨rfl, rfl, rfl, rfl, trivial⟩
def L_form_r : (Int32 ⊕ Nat) × J → Res := fun q => ((match q.1 with | .inl r => .inl (some (.inl r)) | .inr e => .inr e), q.2)
-- 130: L_form
def L_form_b0 (n : Nat) (l1 : Int32) (l2 : Int32) (l3 : Int32) (l4 : Int64) (l6 : Int64) (σ : J) : Option ((Int32 ⊕ Nat) × J) := (JB_form n l1 l2 l3 l4 l6 σ).bind fun q1 => (match q1.1 with | .inl r1 => if q_in 0 1 = true then q_bs (q_sL q1.2 23 0 (vp_updL (q1.2.2.2.1 23 0) ((0 : Int32).toNatClampNeg) r1.toInt64)) fun σ2 => some (.inl 0, σ2) else none | .inr k0 => some (.inr k0, q1.2))
def L_form (n : Nat) (x1 : Int32) (x2 : Int32) (x3 : Int32) (x4 : Int64) (x6 : Int64) (σ : J) : Option ((Int32 ⊕ Nat) × J) := L_form_b0 n x1 x2 x3 x4 x6 σ
theorem L_form_b0_e {n : Nat} {r0 : (Int32 ⊕ Nat) × J} {l1 : Int32} {l2 : Int32} {l3 : Int32} {l4 : Int64} {l6 : Int64} {σ : J} (h : L_form_b0 n l1 l2 l3 l4 l6 σ = some r0) : q_ex q_pr n 3 130 0 (q_L [(0, .inr (.inr (some (0, 0)))), (1, .inl l1), (2, .inl l2), (3, .inl l3), (4, .inr (.inl l4)), (6, .inr (.inl l6)), (8, .inr (.inr (some (23, 0))))]) [] σ (L_form_r r0) := by
  unfold L_form_b0 at h
  obtain ⟨q1, hq1, h⟩ := Option.bind_eq_some_iff.mp h
  obtain ⟨q1, σ1⟩ := q1
  cases q1 with
  | inr k0 =>
    cases h
    exact q_ex_cx 9 (k1 := 14) (vs := [.inr (.inr (some (0, 0))), .inl l1, .inl l2, .inl l3, .inr (.inl l4), .inr (.inl l6)]) (pc' := 14) (L' := (q_L [(0, .inr (.inr (some (0, 0)))), (1, .inl l1), (2, .inl l2), (3, .inl l3), (4, .inr (.inl l4)), (6, .inr (.inl l6)), (8, .inr (.inr (some (23, 0))))])) (rest := [.inl 0, .inr (.inr (some (23, 0)))]) (σ' := σ) (fun _ => rfl) (q_ex_dd (JB_form_e hq1) (Nat.le_of_ble_eq_true rfl))
  | inl r1 =>
    dsimp only at h
    refine q_ex_ca 9 (k1 := 14) (vs := [.inr (.inr (some (0, 0))), .inl l1, .inl l2, .inl l3, .inr (.inl l4), .inr (.inl l6)]) (pc' := 14) (L' := (q_L [(0, .inr (.inr (some (0, 0)))), (1, .inl l1), (2, .inl l2), (3, .inl l3), (4, .inr (.inl l4)), (6, .inr (.inl l6)), (8, .inr (.inr (some (23, 0))))])) (rest := [.inl 0, .inr (.inr (some (23, 0)))]) (σ' := σ) (fun _ => rfl) (q_ex_dd (JB_form_e hq1) (Nat.le_of_ble_eq_true rfl)) rfl ?_
    refine q_by h (fun hz h => ?_)
    refine q_ex_gb 2 (pc' := 16) (L' := (q_L [(0, .inr (.inr (some (0, 0)))), (1, .inl l1), (2, .inl l2), (3, .inl l3), (4, .inr (.inl l4)), (6, .inr (.inl l6)), (8, .inr (.inr (some (23, 0))))])) (st' := []) (σ' := (q_sL σ1 23 0 (vp_updL (σ1.2.2.1 23 0) ((0 : Int32).toNatClampNeg) r1.toInt64))) (fun _ => rfl) hz ?_
    refine q_nm (G := fun τ => q_ex q_pr n _ 130 16 (q_L [(0, .inr (.inr (some (0, 0)))), (1, .inl l1), (2, .inl l2), (3, .inl l3), (4, .inr (.inl l4)), (6, .inr (.inl l6)), (8, .inr (.inr (some (23, 0))))]) [] τ _) h (fun σ2 h => ?_)
    refine q_ex_go 2 (pc' := 36) (L' := (q_L [(0, .inr (.inr (some (0, 0)))), (1, .inl l1), (2, .inl l2), (3, .inl l3), (4, .inr (.inl l4)), (6, .inr (.inl l6)), (8, .inr (.inr (some (23, 0))))])) (st' := [.inl 0]) (σ' := σ2) (fun _ => rfl) ?_
    cases h
    exact ⟨1, rfl⟩
theorem L_form_e {n : Nat} {r0 : (Int32 ⊕ Nat) × J} {x1 : Int32} {x2 : Int32} {x3 : Int32} {x4 : Int64} {x6 : Int64} {σ : J} (h : L_form n x1 x2 x3 x4 x6 σ = some r0) : q_ex q_pr n 3 130 0 (q_args 0 [.inr (.inr (some (0, 0))), .inl x1, .inl x2, .inl x3, .inr (.inl x4), .inr (.inl x6), .inr (.inr (some (23, 0)))]) [] σ (L_form_r r0) := q_ex_ll (L_form_b0_e h) ⟨rfl, rfl, rfl, rfl, rfl, rfl, rfl, trivial⟩
def L_found_r : (Int32 ⊕ Nat) × J → Res := fun q => ((match q.1 with | .inl r => .inl (some (.inl r)) | .inr e => .inr e), q.2)
-- 131: L_found
def L_found_b0 (n : Nat) (l1 : Int32) (l2 : Int32) (σ : J) : Option ((Int32 ⊕ Nat) × J) := (JB_found n l1 l2 σ).bind fun q1 => (match q1.1 with | .inl r1 => if q_in 0 1 = true then q_bs (q_sL q1.2 23 0 (vp_updL (q1.2.2.2.1 23 0) ((0 : Int32).toNatClampNeg) r1)) fun σ2 => some (.inl 0, σ2) else none | .inr k0 => some (.inr k0, q1.2))
def L_found (n : Nat) (x1 : Int32) (x2 : Int32) (σ : J) : Option ((Int32 ⊕ Nat) × J) := L_found_b0 n x1 x2 σ
theorem L_found_b0_e {n : Nat} {r0 : (Int32 ⊕ Nat) × J} {l1 : Int32} {l2 : Int32} {σ : J} (h : L_found_b0 n l1 l2 σ = some r0) : q_ex q_pr n 3 131 0 (q_L [(0, .inr (.inr (some (0, 0)))), (1, .inl l1), (2, .inl l2), (3, .inr (.inr (some (23, 0))))]) [] σ (L_found_r r0) := by
  unfold L_found_b0 at h
  obtain ⟨q1, hq1, h⟩ := Option.bind_eq_some_iff.mp h
  obtain ⟨q1, σ1⟩ := q1
  cases q1 with
  | inr k0 =>
    cases h
    exact q_ex_cx 6 (k1 := 15) (vs := [.inr (.inr (some (0, 0))), .inl l1, .inl l2]) (pc' := 8) (L' := (q_L [(0, .inr (.inr (some (0, 0)))), (1, .inl l1), (2, .inl l2), (3, .inr (.inr (some (23, 0))))])) (rest := [.inl 0, .inr (.inr (some (23, 0)))]) (σ' := σ) (fun _ => rfl) (q_ex_dd (JB_found_e hq1) (Nat.le_of_ble_eq_true rfl))
  | inl r1 =>
    dsimp only at h
    refine q_ex_ca 6 (k1 := 15) (vs := [.inr (.inr (some (0, 0))), .inl l1, .inl l2]) (pc' := 8) (L' := (q_L [(0, .inr (.inr (some (0, 0)))), (1, .inl l1), (2, .inl l2), (3, .inr (.inr (some (23, 0))))])) (rest := [.inl 0, .inr (.inr (some (23, 0)))]) (σ' := σ) (fun _ => rfl) (q_ex_dd (JB_found_e hq1) (Nat.le_of_ble_eq_true rfl)) rfl ?_
    refine q_by h (fun hz h => ?_)
    refine q_ex_gb 1 (pc' := 9) (L' := (q_L [(0, .inr (.inr (some (0, 0)))), (1, .inl l1), (2, .inl l2), (3, .inr (.inr (some (23, 0))))])) (st' := []) (σ' := (q_sL σ1 23 0 (vp_updL (σ1.2.2.1 23 0) ((0 : Int32).toNatClampNeg) r1))) (fun _ => rfl) hz ?_
    refine q_nm (G := fun τ => q_ex q_pr n _ 131 9 (q_L [(0, .inr (.inr (some (0, 0)))), (1, .inl l1), (2, .inl l2), (3, .inr (.inr (some (23, 0))))]) [] τ _) h (fun σ2 h => ?_)
    refine q_ex_go 2 (pc' := 17) (L' := (q_L [(0, .inr (.inr (some (0, 0)))), (1, .inl l1), (2, .inl l2), (3, .inr (.inr (some (23, 0))))])) (st' := [.inl 0]) (σ' := σ2) (fun _ => rfl) ?_
    cases h
    exact ⟨1, rfl⟩
theorem L_found_e {n : Nat} {r0 : (Int32 ⊕ Nat) × J} {x1 : Int32} {x2 : Int32} {σ : J} (h : L_found n x1 x2 σ = some r0) : q_ex q_pr n 3 131 0 (q_args 0 [.inr (.inr (some (0, 0))), .inl x1, .inl x2, .inr (.inr (some (23, 0)))]) [] σ (L_found_r r0) := q_ex_ll (L_found_b0_e h) ⟨rfl, rfl, rfl, rfl, trivial⟩
def L_open_r : (Int32 ⊕ Nat) × J → Res := fun q => ((match q.1 with | .inl r => .inl (some (.inl r)) | .inr e => .inr e), q.2)
-- 132: L_open
def L_open_b0 (n : Nat) (l1 : Int32) (σ : J) : Option ((Int32 ⊕ Nat) × J) := (JB_open n l1 σ).bind fun q1 => (match q1.1 with | .inl r1 => if q_in 0 1 = true then q_bs (q_sL q1.2 23 0 (vp_updL (q1.2.2.2.1 23 0) ((0 : Int32).toNatClampNeg) r1.toInt64)) fun σ2 => some (.inl 0, σ2) else none | .inr k0 => some (.inr k0, q1.2))
def L_open (n : Nat) (x1 : Int32) (σ : J) : Option ((Int32 ⊕ Nat) × J) := L_open_b0 n x1 σ
theorem L_open_b0_e {n : Nat} {r0 : (Int32 ⊕ Nat) × J} {l1 : Int32} {σ : J} (h : L_open_b0 n l1 σ = some r0) : q_ex q_pr n 3 132 0 (q_L [(0, .inr (.inr (some (0, 0)))), (1, .inl l1), (2, .inr (.inr (some (23, 0))))]) [] σ (L_open_r r0) := by
  unfold L_open_b0 at h
  obtain ⟨q1, hq1, h⟩ := Option.bind_eq_some_iff.mp h
  obtain ⟨q1, σ1⟩ := q1
  cases q1 with
  | inr k0 =>
    cases h
    exact q_ex_cx 5 (k1 := 20) (vs := [.inr (.inr (some (0, 0))), .inl l1]) (pc' := 7) (L' := (q_L [(0, .inr (.inr (some (0, 0)))), (1, .inl l1), (2, .inr (.inr (some (23, 0))))])) (rest := [.inl 0, .inr (.inr (some (23, 0)))]) (σ' := σ) (fun _ => rfl) (q_ex_dd (JB_open_e hq1) (Nat.le_of_ble_eq_true rfl))
  | inl r1 =>
    dsimp only at h
    refine q_ex_ca 5 (k1 := 20) (vs := [.inr (.inr (some (0, 0))), .inl l1]) (pc' := 7) (L' := (q_L [(0, .inr (.inr (some (0, 0)))), (1, .inl l1), (2, .inr (.inr (some (23, 0))))])) (rest := [.inl 0, .inr (.inr (some (23, 0)))]) (σ' := σ) (fun _ => rfl) (q_ex_dd (JB_open_e hq1) (Nat.le_of_ble_eq_true rfl)) rfl ?_
    refine q_by h (fun hz h => ?_)
    refine q_ex_gb 2 (pc' := 9) (L' := (q_L [(0, .inr (.inr (some (0, 0)))), (1, .inl l1), (2, .inr (.inr (some (23, 0))))])) (st' := []) (σ' := (q_sL σ1 23 0 (vp_updL (σ1.2.2.1 23 0) ((0 : Int32).toNatClampNeg) r1.toInt64))) (fun _ => rfl) hz ?_
    refine q_nm (G := fun τ => q_ex q_pr n _ 132 9 (q_L [(0, .inr (.inr (some (0, 0)))), (1, .inl l1), (2, .inr (.inr (some (23, 0))))]) [] τ _) h (fun σ2 h => ?_)
    refine q_ex_go 2 (pc' := 22) (L' := (q_L [(0, .inr (.inr (some (0, 0)))), (1, .inl l1), (2, .inr (.inr (some (23, 0))))])) (st' := [.inl 0]) (σ' := σ2) (fun _ => rfl) ?_
    cases h
    exact ⟨1, rfl⟩
theorem L_open_e {n : Nat} {r0 : (Int32 ⊕ Nat) × J} {x1 : Int32} {σ : J} (h : L_open n x1 σ = some r0) : q_ex q_pr n 3 132 0 (q_args 0 [.inr (.inr (some (0, 0))), .inl x1, .inr (.inr (some (23, 0)))]) [] σ (L_open_r r0) := q_ex_ll (L_open_b0_e h) ⟨rfl, rfl, rfl, trivial⟩
def L_order_r : (Int32 ⊕ Nat) × J → Res := fun q => ((match q.1 with | .inl r => .inl (some (.inl r)) | .inr e => .inr e), q.2)
-- 133: L_order
def L_order_b0 (n : Nat) (f : Nat) (l1 : Int32) (σ : J) : Option ((Int32 ⊕ Nat) × J) := (JB_order n f l1 σ).bind fun q1 => (match q1.1 with | .inl r1 => if q_in 0 1 = true then q_bs (q_sL q1.2 23 0 (vp_updL (q1.2.2.2.1 23 0) ((0 : Int32).toNatClampNeg) r1.toInt64)) fun σ2 => some (.inl 0, σ2) else none | .inr k0 => some (.inr k0, q1.2))
def L_order (n : Nat) (f : Nat) (x1 : Int32) (σ : J) : Option ((Int32 ⊕ Nat) × J) := L_order_b0 n f x1 σ
theorem L_order_b0_e {n : Nat} {r0 : (Int32 ⊕ Nat) × J} {f : Nat} {l1 : Int32} {σ : J} (h : L_order_b0 n f l1 σ = some r0) : q_ex q_pr n 3 133 0 (q_L [(0, .inr (.inr (some (0, 0)))), (1, .inl l1), (2, .inr (.inr (some (23, 0))))]) [] σ (L_order_r r0) := by
  unfold L_order_b0 at h
  obtain ⟨q1, hq1, h⟩ := Option.bind_eq_some_iff.mp h
  obtain ⟨q1, σ1⟩ := q1
  cases q1 with
  | inr k0 =>
    cases h
    exact q_ex_cx 5 (k1 := 21) (vs := [.inr (.inr (some (0, 0))), .inl l1]) (pc' := 7) (L' := (q_L [(0, .inr (.inr (some (0, 0)))), (1, .inl l1), (2, .inr (.inr (some (23, 0))))])) (rest := [.inl 0, .inr (.inr (some (23, 0)))]) (σ' := σ) (fun _ => rfl) (q_ex_dd (JB_order_e hq1) (Nat.le_of_ble_eq_true rfl))
  | inl r1 =>
    dsimp only at h
    refine q_ex_ca 5 (k1 := 21) (vs := [.inr (.inr (some (0, 0))), .inl l1]) (pc' := 7) (L' := (q_L [(0, .inr (.inr (some (0, 0)))), (1, .inl l1), (2, .inr (.inr (some (23, 0))))])) (rest := [.inl 0, .inr (.inr (some (23, 0)))]) (σ' := σ) (fun _ => rfl) (q_ex_dd (JB_order_e hq1) (Nat.le_of_ble_eq_true rfl)) rfl ?_
    refine q_by h (fun hz h => ?_)
    refine q_ex_gb 2 (pc' := 9) (L' := (q_L [(0, .inr (.inr (some (0, 0)))), (1, .inl l1), (2, .inr (.inr (some (23, 0))))])) (st' := []) (σ' := (q_sL σ1 23 0 (vp_updL (σ1.2.2.1 23 0) ((0 : Int32).toNatClampNeg) r1.toInt64))) (fun _ => rfl) hz ?_
    refine q_nm (G := fun τ => q_ex q_pr n _ 133 9 (q_L [(0, .inr (.inr (some (0, 0)))), (1, .inl l1), (2, .inr (.inr (some (23, 0))))]) [] τ _) h (fun σ2 h => ?_)
    refine q_ex_go 2 (pc' := 25) (L' := (q_L [(0, .inr (.inr (some (0, 0)))), (1, .inl l1), (2, .inr (.inr (some (23, 0))))])) (st' := [.inl 0]) (σ' := σ2) (fun _ => rfl) ?_
    cases h
    exact ⟨1, rfl⟩
theorem L_order_e {n : Nat} {r0 : (Int32 ⊕ Nat) × J} {f : Nat} {x1 : Int32} {σ : J} (h : L_order n f x1 σ = some r0) : q_ex q_pr n 3 133 0 (q_args 0 [.inr (.inr (some (0, 0))), .inl x1, .inr (.inr (some (23, 0)))]) [] σ (L_order_r r0) := q_ex_ll (L_order_b0_e h) ⟨rfl, rfl, rfl, trivial⟩
def L_put_r : (Int32 ⊕ Nat) × J → Res := fun q => ((match q.1 with | .inl r => .inl (some (.inl r)) | .inr e => .inr e), q.2)
-- 134: L_put
def L_put_b0 (n : Nat) (f : Nat) (l1 : Int32) (l2 : Int32) (σ : J) : Option ((Int32 ⊕ Nat) × J) := (JB_put n f l1 l2 σ).bind fun q1 => (match q1.1 with | .inl r1 => if q_in 0 1 = true then q_bs (q_sL q1.2 23 0 (vp_updL (q1.2.2.2.1 23 0) ((0 : Int32).toNatClampNeg) r1.toInt64)) fun σ2 => some (.inl 0, σ2) else none | .inr k0 => some (.inr k0, q1.2))
def L_put (n : Nat) (f : Nat) (x1 : Int32) (x2 : Int32) (σ : J) : Option ((Int32 ⊕ Nat) × J) := L_put_b0 n f x1 x2 σ
theorem L_put_b0_e {n : Nat} {r0 : (Int32 ⊕ Nat) × J} {f : Nat} {l1 : Int32} {l2 : Int32} {σ : J} (h : L_put_b0 n f l1 l2 σ = some r0) : q_ex q_pr n 11 134 0 (q_L [(0, .inr (.inr (some (0, 0)))), (1, .inl l1), (2, .inl l2), (3, .inr (.inr (some (23, 0))))]) [] σ (L_put_r r0) := by
  unfold L_put_b0 at h
  obtain ⟨q1, hq1, h⟩ := Option.bind_eq_some_iff.mp h
  obtain ⟨q1, σ1⟩ := q1
  cases q1 with
  | inr k0 =>
    cases h
    exact q_ex_cx 6 (k1 := 23) (vs := [.inr (.inr (some (0, 0))), .inl l1, .inl l2]) (pc' := 8) (L' := (q_L [(0, .inr (.inr (some (0, 0)))), (1, .inl l1), (2, .inl l2), (3, .inr (.inr (some (23, 0))))])) (rest := [.inl 0, .inr (.inr (some (23, 0)))]) (σ' := σ) (fun _ => rfl) (q_ex_dd (JB_put_e hq1) (Nat.le_of_ble_eq_true rfl))
  | inl r1 =>
    dsimp only at h
    refine q_ex_ca 6 (k1 := 23) (vs := [.inr (.inr (some (0, 0))), .inl l1, .inl l2]) (pc' := 8) (L' := (q_L [(0, .inr (.inr (some (0, 0)))), (1, .inl l1), (2, .inl l2), (3, .inr (.inr (some (23, 0))))])) (rest := [.inl 0, .inr (.inr (some (23, 0)))]) (σ' := σ) (fun _ => rfl) (q_ex_dd (JB_put_e hq1) (Nat.le_of_ble_eq_true rfl)) rfl ?_
    refine q_by h (fun hz h => ?_)
    refine q_ex_gb 2 (pc' := 10) (L' := (q_L [(0, .inr (.inr (some (0, 0)))), (1, .inl l1), (2, .inl l2), (3, .inr (.inr (some (23, 0))))])) (st' := []) (σ' := (q_sL σ1 23 0 (vp_updL (σ1.2.2.1 23 0) ((0 : Int32).toNatClampNeg) r1.toInt64))) (fun _ => rfl) hz ?_
    refine q_nm (G := fun τ => q_ex q_pr n _ 134 10 (q_L [(0, .inr (.inr (some (0, 0)))), (1, .inl l1), (2, .inl l2), (3, .inr (.inr (some (23, 0))))]) [] τ _) h (fun σ2 h => ?_)
    refine q_ex_go 2 (pc' := 30) (L' := (q_L [(0, .inr (.inr (some (0, 0)))), (1, .inl l1), (2, .inl l2), (3, .inr (.inr (some (23, 0))))])) (st' := [.inl 0]) (σ' := σ2) (fun _ => rfl) ?_
    cases h
    exact ⟨1, rfl⟩
theorem L_put_e {n : Nat} {r0 : (Int32 ⊕ Nat) × J} {f : Nat} {x1 : Int32} {x2 : Int32} {σ : J} (h : L_put n f x1 x2 σ = some r0) : q_ex q_pr n 11 134 0 (q_args 0 [.inr (.inr (some (0, 0))), .inl x1, .inl x2, .inr (.inr (some (23, 0)))]) [] σ (L_put_r r0) := q_ex_ll (L_put_b0_e h) ⟨rfl, rfl, rfl, rfl, trivial⟩
def L_renew_r : (Int32 ⊕ Nat) × J → Res := fun q => ((match q.1 with | .inl r => .inl (some (.inl r)) | .inr e => .inr e), q.2)
-- 135: L_renew
def L_renew_b18 (n : Nat) (f : Nat) (s1 : Int32) (s2 : Int64) (σ : J) : Option ((Int32 ⊕ Nat) × J) := if q_in s1 1 = true then q_bs (q_sL σ 23 0 (vp_updL (σ.2.2.1 23 0) s1.toNatClampNeg s2)) fun σ2 => some (.inl 0, σ2) else none
def L_renew_b0 (n : Nat) (f : Nat) (l1 : Int32) (l2 : Int32) (l3 : Int32) (σ : J) : Option ((Int32 ⊕ Nat) × J) := (JB_renew n f l1 l2 l3 σ).bind fun q1 => (match q1.1 with | .inl r1 => if r1 = 0 then L_renew_b18 n f 0 0 q1.2 else L_renew_b18 n f 0 1 q1.2 | .inr k0 => some (.inr k0, q1.2))
def L_renew (n : Nat) (f : Nat) (x1 : Int32) (x2 : Int32) (x3 : Int32) (σ : J) : Option ((Int32 ⊕ Nat) × J) := L_renew_b0 n f x1 x2 x3 σ
theorem L_renew_b18_e {n : Nat} {r0 : (Int32 ⊕ Nat) × J} {f : Nat} {s1 : Int32} {s2 : Int64} {σ : J} (h : L_renew_b18 n f s1 s2 σ = some r0) : q_ex q_pr n 3 135 18 (q_L []) [.inr (.inl s2), .inl s1, .inr (.inr (some (23, 0)))] σ (L_renew_r r0) := by
  unfold L_renew_b18 at h
  refine q_by h (fun hz h => ?_)
  refine q_ex_gb 1 (pc' := 19) (L' := (q_L [])) (st' := []) (σ' := (q_sL σ 23 0 (vp_updL (σ.2.2.1 23 0) s1.toNatClampNeg s2))) (fun _ => rfl) hz ?_
  refine q_nm (G := fun τ => q_ex q_pr n _ 135 19 (q_L []) [] τ _) h (fun σ2 h => ?_)
  refine q_ex_go 2 (pc' := 35) (L' := (q_L [])) (st' := [.inl 0]) (σ' := σ2) (fun _ => rfl) ?_
  cases h
  exact ⟨1, rfl⟩
theorem L_renew_b0_e {n : Nat} {r0 : (Int32 ⊕ Nat) × J} {f : Nat} {l1 : Int32} {l2 : Int32} {l3 : Int32} {σ : J} (h : L_renew_b0 n f l1 l2 l3 σ = some r0) : q_ex q_pr n 3 135 0 (q_L [(0, .inr (.inr (some (0, 0)))), (1, .inl l1), (2, .inl l2), (3, .inl l3), (4, .inr (.inr (some (23, 0))))]) [] σ (L_renew_r r0) := by
  unfold L_renew_b0 at h
  obtain ⟨q1, hq1, h⟩ := Option.bind_eq_some_iff.mp h
  obtain ⟨q1, σ1⟩ := q1
  cases q1 with
  | inr k0 =>
    cases h
    exact q_ex_cx 7 (k1 := 25) (vs := [.inr (.inr (some (0, 0))), .inl l1, .inl l2, .inl l3]) (pc' := 10) (L' := (q_L [(0, .inr (.inr (some (0, 0)))), (1, .inl l1), (2, .inl l2), (3, .inl l3), (4, .inr (.inr (some (23, 0))))])) (rest := [.inl 0, .inr (.inr (some (23, 0)))]) (σ' := σ) (fun _ => rfl) (q_ex_dd (JB_renew_e hq1) (Nat.le_of_ble_eq_true rfl))
  | inl r1 =>
    dsimp only at h
    refine q_ex_ca 7 (k1 := 25) (vs := [.inr (.inr (some (0, 0))), .inl l1, .inl l2, .inl l3]) (pc' := 10) (L' := (q_L [(0, .inr (.inr (some (0, 0)))), (1, .inl l1), (2, .inl l2), (3, .inl l3), (4, .inr (.inr (some (23, 0))))])) (rest := [.inl 0, .inr (.inr (some (23, 0)))]) (σ' := σ) (fun _ => rfl) (q_ex_dd (JB_renew_e hq1) (Nat.le_of_ble_eq_true rfl)) rfl ?_
    refine q_ex_br 1 (c := r1 = 0) (pc1 := 17) (pc2 := 13) (L' := (q_L [(0, .inr (.inr (some (0, 0)))), (1, .inl l1), (2, .inl l2), (3, .inl l3), (4, .inr (.inr (some (23, 0))))])) (st' := [.inl 0, .inr (.inr (some (23, 0)))]) (σ' := σ1) (fun _ => rfl) (fun hc => ?_) (fun hc => ?_)
    · rw [if_pos hc] at h
      refine q_ex_go 1 (pc' := 18) (L' := (q_L [(0, .inr (.inr (some (0, 0)))), (1, .inl l1), (2, .inl l2), (3, .inl l3), (4, .inr (.inr (some (23, 0))))])) (st' := [.inr (.inl 0), .inl 0, .inr (.inr (some (23, 0)))]) (σ' := σ1) (fun _ => rfl) ?_
      exact q_ex_ll (L_renew_b18_e h) trivial
    · rw [if_neg hc] at h
      refine q_ex_go 2 (pc' := 18) (L' := (q_L [(0, .inr (.inr (some (0, 0)))), (1, .inl l1), (2, .inl l2), (3, .inl l3), (4, .inr (.inr (some (23, 0))))])) (st' := [.inr (.inl 1), .inl 0, .inr (.inr (some (23, 0)))]) (σ' := σ1) (fun _ => rfl) ?_
      exact q_ex_ll (L_renew_b18_e h) trivial
theorem L_renew_e {n : Nat} {r0 : (Int32 ⊕ Nat) × J} {f : Nat} {x1 : Int32} {x2 : Int32} {x3 : Int32} {σ : J} (h : L_renew n f x1 x2 x3 σ = some r0) : q_ex q_pr n 3 135 0 (q_args 0 [.inr (.inr (some (0, 0))), .inl x1, .inl x2, .inl x3, .inr (.inr (some (23, 0)))]) [] σ (L_renew_r r0) := q_ex_ll (L_renew_b0_e h) ⟨rfl, rfl, rfl, rfl, rfl, trivial⟩
def L_seen_r : (Int32 ⊕ Nat) × J → Res := fun q => ((match q.1 with | .inl r => .inl (some (.inl r)) | .inr e => .inr e), q.2)
-- 136: L_seen
def L_seen_b0 (n : Nat) (f : Nat) (l1 : Int32) (l2 : Int32) (σ : J) : Option ((Int32 ⊕ Nat) × J) := (JB_seen n f l1 l2 σ).bind fun q1 => (match q1.1 with | .inl r1 => if q_in 0 1 = true then q_bs (q_sL q1.2 23 0 (vp_updL (q1.2.2.2.1 23 0) ((0 : Int32).toNatClampNeg) r1.toInt64)) fun σ2 => some (.inl 0, σ2) else none | .inr k0 => some (.inr k0, q1.2))
def L_seen (n : Nat) (f : Nat) (x1 : Int32) (x2 : Int32) (σ : J) : Option ((Int32 ⊕ Nat) × J) := L_seen_b0 n f x1 x2 σ
theorem L_seen_b0_e {n : Nat} {r0 : (Int32 ⊕ Nat) × J} {f : Nat} {l1 : Int32} {l2 : Int32} {σ : J} (h : L_seen_b0 n f l1 l2 σ = some r0) : q_ex q_pr n 3 136 0 (q_L [(0, .inr (.inr (some (0, 0)))), (1, .inl l1), (2, .inl l2), (3, .inr (.inr (some (23, 0))))]) [] σ (L_seen_r r0) := by
  unfold L_seen_b0 at h
  obtain ⟨q1, hq1, h⟩ := Option.bind_eq_some_iff.mp h
  obtain ⟨q1, σ1⟩ := q1
  cases q1 with
  | inr k0 =>
    cases h
    exact q_ex_cx 6 (k1 := 28) (vs := [.inr (.inr (some (0, 0))), .inl l1, .inl l2]) (pc' := 8) (L' := (q_L [(0, .inr (.inr (some (0, 0)))), (1, .inl l1), (2, .inl l2), (3, .inr (.inr (some (23, 0))))])) (rest := [.inl 0, .inr (.inr (some (23, 0)))]) (σ' := σ) (fun _ => rfl) (q_ex_dd (JB_seen_e hq1) (Nat.le_of_ble_eq_true rfl))
  | inl r1 =>
    dsimp only at h
    refine q_ex_ca 6 (k1 := 28) (vs := [.inr (.inr (some (0, 0))), .inl l1, .inl l2]) (pc' := 8) (L' := (q_L [(0, .inr (.inr (some (0, 0)))), (1, .inl l1), (2, .inl l2), (3, .inr (.inr (some (23, 0))))])) (rest := [.inl 0, .inr (.inr (some (23, 0)))]) (σ' := σ) (fun _ => rfl) (q_ex_dd (JB_seen_e hq1) (Nat.le_of_ble_eq_true rfl)) rfl ?_
    refine q_by h (fun hz h => ?_)
    refine q_ex_gb 2 (pc' := 10) (L' := (q_L [(0, .inr (.inr (some (0, 0)))), (1, .inl l1), (2, .inl l2), (3, .inr (.inr (some (23, 0))))])) (st' := []) (σ' := (q_sL σ1 23 0 (vp_updL (σ1.2.2.1 23 0) ((0 : Int32).toNatClampNeg) r1.toInt64))) (fun _ => rfl) hz ?_
    refine q_nm (G := fun τ => q_ex q_pr n _ 136 10 (q_L [(0, .inr (.inr (some (0, 0)))), (1, .inl l1), (2, .inl l2), (3, .inr (.inr (some (23, 0))))]) [] τ _) h (fun σ2 h => ?_)
    refine q_ex_go 2 (pc' := 18) (L' := (q_L [(0, .inr (.inr (some (0, 0)))), (1, .inl l1), (2, .inl l2), (3, .inr (.inr (some (23, 0))))])) (st' := [.inl 0]) (σ' := σ2) (fun _ => rfl) ?_
    cases h
    exact ⟨1, rfl⟩
theorem L_seen_e {n : Nat} {r0 : (Int32 ⊕ Nat) × J} {f : Nat} {x1 : Int32} {x2 : Int32} {σ : J} (h : L_seen n f x1 x2 σ = some r0) : q_ex q_pr n 3 136 0 (q_args 0 [.inr (.inr (some (0, 0))), .inl x1, .inl x2, .inr (.inr (some (23, 0)))]) [] σ (L_seen_r r0) := q_ex_ll (L_seen_b0_e h) ⟨rfl, rfl, rfl, rfl, trivial⟩
def L_session_r : (Int32 ⊕ Nat) × J → Res := fun q => ((match q.1 with | .inl r => .inl (some (.inl r)) | .inr e => .inr e), q.2)
-- 137: L_session
def L_session_b0 (n : Nat) (f : Nat) (l1 : Int32) (l2 : Int32) (σ : J) : Option ((Int32 ⊕ Nat) × J) := (JB_session n f l1 l2 σ).bind fun q1 => (match q1.1 with | .inl r1 => if q_in 0 1 = true then q_bs (q_sL q1.2 23 0 (vp_updL (q1.2.2.2.1 23 0) ((0 : Int32).toNatClampNeg) r1.toInt64)) fun σ2 => some (.inl 0, σ2) else none | .inr k0 => some (.inr k0, q1.2))
def L_session (n : Nat) (f : Nat) (x1 : Int32) (x2 : Int32) (σ : J) : Option ((Int32 ⊕ Nat) × J) := L_session_b0 n f x1 x2 σ
theorem L_session_b0_e {n : Nat} {r0 : (Int32 ⊕ Nat) × J} {f : Nat} {l1 : Int32} {l2 : Int32} {σ : J} (h : L_session_b0 n f l1 l2 σ = some r0) : q_ex q_pr n 2 137 0 (q_L [(0, .inr (.inr (some (0, 0)))), (1, .inl l1), (2, .inl l2), (3, .inr (.inr (some (23, 0))))]) [] σ (L_session_r r0) := by
  unfold L_session_b0 at h
  obtain ⟨q1, hq1, h⟩ := Option.bind_eq_some_iff.mp h
  obtain ⟨q1, σ1⟩ := q1
  cases q1 with
  | inr k0 =>
    cases h
    exact q_ex_cx 6 (k1 := 30) (vs := [.inr (.inr (some (0, 0))), .inl l1, .inl l2]) (pc' := 8) (L' := (q_L [(0, .inr (.inr (some (0, 0)))), (1, .inl l1), (2, .inl l2), (3, .inr (.inr (some (23, 0))))])) (rest := [.inl 0, .inr (.inr (some (23, 0)))]) (σ' := σ) (fun _ => rfl) (q_ex_dd (JB_session_e hq1) (Nat.le_of_ble_eq_true rfl))
  | inl r1 =>
    dsimp only at h
    refine q_ex_ca 6 (k1 := 30) (vs := [.inr (.inr (some (0, 0))), .inl l1, .inl l2]) (pc' := 8) (L' := (q_L [(0, .inr (.inr (some (0, 0)))), (1, .inl l1), (2, .inl l2), (3, .inr (.inr (some (23, 0))))])) (rest := [.inl 0, .inr (.inr (some (23, 0)))]) (σ' := σ) (fun _ => rfl) (q_ex_dd (JB_session_e hq1) (Nat.le_of_ble_eq_true rfl)) rfl ?_
    refine q_by h (fun hz h => ?_)
    refine q_ex_gb 2 (pc' := 10) (L' := (q_L [(0, .inr (.inr (some (0, 0)))), (1, .inl l1), (2, .inl l2), (3, .inr (.inr (some (23, 0))))])) (st' := []) (σ' := (q_sL σ1 23 0 (vp_updL (σ1.2.2.1 23 0) ((0 : Int32).toNatClampNeg) r1.toInt64))) (fun _ => rfl) hz ?_
    refine q_nm (G := fun τ => q_ex q_pr n _ 137 10 (q_L [(0, .inr (.inr (some (0, 0)))), (1, .inl l1), (2, .inl l2), (3, .inr (.inr (some (23, 0))))]) [] τ _) h (fun σ2 h => ?_)
    refine q_ex_go 2 (pc' := 18) (L' := (q_L [(0, .inr (.inr (some (0, 0)))), (1, .inl l1), (2, .inl l2), (3, .inr (.inr (some (23, 0))))])) (st' := [.inl 0]) (σ' := σ2) (fun _ => rfl) ?_
    cases h
    exact ⟨1, rfl⟩
theorem L_session_e {n : Nat} {r0 : (Int32 ⊕ Nat) × J} {f : Nat} {x1 : Int32} {x2 : Int32} {σ : J} (h : L_session n f x1 x2 σ = some r0) : q_ex q_pr n 2 137 0 (q_args 0 [.inr (.inr (some (0, 0))), .inl x1, .inl x2, .inr (.inr (some (23, 0)))]) [] σ (L_session_r r0) := q_ex_ll (L_session_b0_e h) ⟨rfl, rfl, rfl, rfl, trivial⟩
def L_stop_r : (Int32 ⊕ Nat) × J → Res := fun q => ((match q.1 with | .inl r => .inl (some (.inl r)) | .inr e => .inr e), q.2)
-- 138: L_stop
def L_stop_b15 (n : Nat) (f : Nat) (s1 : Int32) (s2 : Int64) (σ : J) : Option ((Int32 ⊕ Nat) × J) := if q_in s1 1 = true then q_bs (q_sL σ 23 0 (vp_updL (σ.2.2.1 23 0) s1.toNatClampNeg s2)) fun σ2 => some (.inl 0, σ2) else none
def L_stop_b0 (n : Nat) (f : Nat) (l1 : Int32) (σ : J) : Option ((Int32 ⊕ Nat) × J) := (JB_stop n f l1 σ).bind fun q1 => (match q1.1 with | .inl r1 => if r1 = 0 then L_stop_b15 n f 0 0 q1.2 else L_stop_b15 n f 0 1 q1.2 | .inr k0 => some (.inr k0, q1.2))
def L_stop (n : Nat) (f : Nat) (x1 : Int32) (σ : J) : Option ((Int32 ⊕ Nat) × J) := L_stop_b0 n f x1 σ
theorem L_stop_b15_e {n : Nat} {r0 : (Int32 ⊕ Nat) × J} {f : Nat} {s1 : Int32} {s2 : Int64} {σ : J} (h : L_stop_b15 n f s1 s2 σ = some r0) : q_ex q_pr n 4 138 15 (q_L []) [.inr (.inl s2), .inl s1, .inr (.inr (some (23, 0)))] σ (L_stop_r r0) := by
  unfold L_stop_b15 at h
  refine q_by h (fun hz h => ?_)
  refine q_ex_gb 1 (pc' := 16) (L' := (q_L [])) (st' := []) (σ' := (q_sL σ 23 0 (vp_updL (σ.2.2.1 23 0) s1.toNatClampNeg s2))) (fun _ => rfl) hz ?_
  refine q_nm (G := fun τ => q_ex q_pr n _ 138 16 (q_L []) [] τ _) h (fun σ2 h => ?_)
  refine q_ex_go 2 (pc' := 23) (L' := (q_L [])) (st' := [.inl 0]) (σ' := σ2) (fun _ => rfl) ?_
  cases h
  exact ⟨1, rfl⟩
theorem L_stop_b0_e {n : Nat} {r0 : (Int32 ⊕ Nat) × J} {f : Nat} {l1 : Int32} {σ : J} (h : L_stop_b0 n f l1 σ = some r0) : q_ex q_pr n 4 138 0 (q_L [(0, .inr (.inr (some (0, 0)))), (1, .inl l1), (2, .inr (.inr (some (23, 0))))]) [] σ (L_stop_r r0) := by
  unfold L_stop_b0 at h
  obtain ⟨q1, hq1, h⟩ := Option.bind_eq_some_iff.mp h
  obtain ⟨q1, σ1⟩ := q1
  cases q1 with
  | inr k0 =>
    cases h
    exact q_ex_cx 5 (k1 := 33) (vs := [.inr (.inr (some (0, 0))), .inl l1]) (pc' := 7) (L' := (q_L [(0, .inr (.inr (some (0, 0)))), (1, .inl l1), (2, .inr (.inr (some (23, 0))))])) (rest := [.inl 0, .inr (.inr (some (23, 0)))]) (σ' := σ) (fun _ => rfl) (q_ex_dd (JB_stop_e hq1) (Nat.le_of_ble_eq_true rfl))
  | inl r1 =>
    dsimp only at h
    refine q_ex_ca 5 (k1 := 33) (vs := [.inr (.inr (some (0, 0))), .inl l1]) (pc' := 7) (L' := (q_L [(0, .inr (.inr (some (0, 0)))), (1, .inl l1), (2, .inr (.inr (some (23, 0))))])) (rest := [.inl 0, .inr (.inr (some (23, 0)))]) (σ' := σ) (fun _ => rfl) (q_ex_dd (JB_stop_e hq1) (Nat.le_of_ble_eq_true rfl)) rfl ?_
    refine q_ex_br 1 (c := r1 = 0) (pc1 := 14) (pc2 := 10) (L' := (q_L [(0, .inr (.inr (some (0, 0)))), (1, .inl l1), (2, .inr (.inr (some (23, 0))))])) (st' := [.inl 0, .inr (.inr (some (23, 0)))]) (σ' := σ1) (fun _ => rfl) (fun hc => ?_) (fun hc => ?_)
    · rw [if_pos hc] at h
      refine q_ex_go 1 (pc' := 15) (L' := (q_L [(0, .inr (.inr (some (0, 0)))), (1, .inl l1), (2, .inr (.inr (some (23, 0))))])) (st' := [.inr (.inl 0), .inl 0, .inr (.inr (some (23, 0)))]) (σ' := σ1) (fun _ => rfl) ?_
      exact q_ex_ll (L_stop_b15_e h) trivial
    · rw [if_neg hc] at h
      refine q_ex_go 2 (pc' := 15) (L' := (q_L [(0, .inr (.inr (some (0, 0)))), (1, .inl l1), (2, .inr (.inr (some (23, 0))))])) (st' := [.inr (.inl 1), .inl 0, .inr (.inr (some (23, 0)))]) (σ' := σ1) (fun _ => rfl) ?_
      exact q_ex_ll (L_stop_b15_e h) trivial
theorem L_stop_e {n : Nat} {r0 : (Int32 ⊕ Nat) × J} {f : Nat} {x1 : Int32} {σ : J} (h : L_stop n f x1 σ = some r0) : q_ex q_pr n 4 138 0 (q_args 0 [.inr (.inr (some (0, 0))), .inl x1, .inr (.inr (some (23, 0)))]) [] σ (L_stop_r r0) := q_ex_ll (L_stop_b0_e h) ⟨rfl, rfl, rfl, trivial⟩
def L_swap_r : (Int32 ⊕ Nat) × J → Res := fun q => ((match q.1 with | .inl r => .inl (some (.inl r)) | .inr e => .inr e), q.2)
-- 139: L_swap
def L_swap_b0 (n : Nat) (f : Nat) (l1 : Int32) (σ : J) : Option ((Int32 ⊕ Nat) × J) := (JB_swap n f l1 σ).bind fun q1 => (match q1.1 with | .inl r1 => if q_in 0 1 = true then q_bs (q_sL q1.2 23 0 (vp_updL (q1.2.2.2.1 23 0) ((0 : Int32).toNatClampNeg) r1.toInt64)) fun σ2 => some (.inl 0, σ2) else none | .inr k0 => some (.inr k0, q1.2))
def L_swap (n : Nat) (f : Nat) (x1 : Int32) (σ : J) : Option ((Int32 ⊕ Nat) × J) := L_swap_b0 n f x1 σ
theorem L_swap_b0_e {n : Nat} {r0 : (Int32 ⊕ Nat) × J} {f : Nat} {l1 : Int32} {σ : J} (h : L_swap_b0 n f l1 σ = some r0) : q_ex q_pr n 11 139 0 (q_L [(0, .inr (.inr (some (0, 0)))), (1, .inl l1), (2, .inr (.inr (some (23, 0))))]) [] σ (L_swap_r r0) := by
  unfold L_swap_b0 at h
  obtain ⟨q1, hq1, h⟩ := Option.bind_eq_some_iff.mp h
  obtain ⟨q1, σ1⟩ := q1
  cases q1 with
  | inr k0 =>
    cases h
    exact q_ex_cx 5 (k1 := 34) (vs := [.inr (.inr (some (0, 0))), .inl l1]) (pc' := 7) (L' := (q_L [(0, .inr (.inr (some (0, 0)))), (1, .inl l1), (2, .inr (.inr (some (23, 0))))])) (rest := [.inl 0, .inr (.inr (some (23, 0)))]) (σ' := σ) (fun _ => rfl) (q_ex_dd (JB_swap_e hq1) (Nat.le_of_ble_eq_true rfl))
  | inl r1 =>
    dsimp only at h
    refine q_ex_ca 5 (k1 := 34) (vs := [.inr (.inr (some (0, 0))), .inl l1]) (pc' := 7) (L' := (q_L [(0, .inr (.inr (some (0, 0)))), (1, .inl l1), (2, .inr (.inr (some (23, 0))))])) (rest := [.inl 0, .inr (.inr (some (23, 0)))]) (σ' := σ) (fun _ => rfl) (q_ex_dd (JB_swap_e hq1) (Nat.le_of_ble_eq_true rfl)) rfl ?_
    refine q_by h (fun hz h => ?_)
    refine q_ex_gb 2 (pc' := 9) (L' := (q_L [(0, .inr (.inr (some (0, 0)))), (1, .inl l1), (2, .inr (.inr (some (23, 0))))])) (st' := []) (σ' := (q_sL σ1 23 0 (vp_updL (σ1.2.2.1 23 0) ((0 : Int32).toNatClampNeg) r1.toInt64))) (fun _ => rfl) hz ?_
    refine q_nm (G := fun τ => q_ex q_pr n _ 139 9 (q_L [(0, .inr (.inr (some (0, 0)))), (1, .inl l1), (2, .inr (.inr (some (23, 0))))]) [] τ _) h (fun σ2 h => ?_)
    refine q_ex_go 2 (pc' := 25) (L' := (q_L [(0, .inr (.inr (some (0, 0)))), (1, .inl l1), (2, .inr (.inr (some (23, 0))))])) (st' := [.inl 0]) (σ' := σ2) (fun _ => rfl) ?_
    cases h
    exact ⟨1, rfl⟩
theorem L_swap_e {n : Nat} {r0 : (Int32 ⊕ Nat) × J} {f : Nat} {x1 : Int32} {σ : J} (h : L_swap n f x1 σ = some r0) : q_ex q_pr n 11 139 0 (q_args 0 [.inr (.inr (some (0, 0))), .inl x1, .inr (.inr (some (23, 0)))]) [] σ (L_swap_r r0) := q_ex_ll (L_swap_b0_e h) ⟨rfl, rfl, rfl, trivial⟩
def L_tick_r : (Int32 ⊕ Nat) × J → Res := fun q => ((match q.1 with | .inl r => .inl (some (.inl r)) | .inr e => .inr e), q.2)
-- 140: L_tick
def L_tick_b0 (n : Nat) (f : Nat) (l1 : Int32) (σ : J) : Option ((Int32 ⊕ Nat) × J) := (JB_tick n f l1 σ).bind fun q1 => (match q1.1 with | .inl r1 => if q_in 0 1 = true then q_bs (q_sL q1.2 23 0 (vp_updL (q1.2.2.2.1 23 0) ((0 : Int32).toNatClampNeg) r1.toInt64)) fun σ2 => some (.inl 0, σ2) else none | .inr k0 => some (.inr k0, q1.2))
def L_tick (n : Nat) (f : Nat) (x1 : Int32) (σ : J) : Option ((Int32 ⊕ Nat) × J) := L_tick_b0 n f x1 σ
theorem L_tick_b0_e {n : Nat} {r0 : (Int32 ⊕ Nat) × J} {f : Nat} {l1 : Int32} {σ : J} (h : L_tick_b0 n f l1 σ = some r0) : q_ex q_pr n 10 140 0 (q_L [(0, .inr (.inr (some (0, 0)))), (1, .inl l1), (2, .inr (.inr (some (23, 0))))]) [] σ (L_tick_r r0) := by
  unfold L_tick_b0 at h
  obtain ⟨q1, hq1, h⟩ := Option.bind_eq_some_iff.mp h
  obtain ⟨q1, σ1⟩ := q1
  cases q1 with
  | inr k0 =>
    cases h
    exact q_ex_cx 5 (k1 := 35) (vs := [.inr (.inr (some (0, 0))), .inl l1]) (pc' := 7) (L' := (q_L [(0, .inr (.inr (some (0, 0)))), (1, .inl l1), (2, .inr (.inr (some (23, 0))))])) (rest := [.inl 0, .inr (.inr (some (23, 0)))]) (σ' := σ) (fun _ => rfl) (q_ex_dd (JB_tick_e hq1) (Nat.le_of_ble_eq_true rfl))
  | inl r1 =>
    dsimp only at h
    refine q_ex_ca 5 (k1 := 35) (vs := [.inr (.inr (some (0, 0))), .inl l1]) (pc' := 7) (L' := (q_L [(0, .inr (.inr (some (0, 0)))), (1, .inl l1), (2, .inr (.inr (some (23, 0))))])) (rest := [.inl 0, .inr (.inr (some (23, 0)))]) (σ' := σ) (fun _ => rfl) (q_ex_dd (JB_tick_e hq1) (Nat.le_of_ble_eq_true rfl)) rfl ?_
    refine q_by h (fun hz h => ?_)
    refine q_ex_gb 2 (pc' := 9) (L' := (q_L [(0, .inr (.inr (some (0, 0)))), (1, .inl l1), (2, .inr (.inr (some (23, 0))))])) (st' := []) (σ' := (q_sL σ1 23 0 (vp_updL (σ1.2.2.1 23 0) ((0 : Int32).toNatClampNeg) r1.toInt64))) (fun _ => rfl) hz ?_
    refine q_nm (G := fun τ => q_ex q_pr n _ 140 9 (q_L [(0, .inr (.inr (some (0, 0)))), (1, .inl l1), (2, .inr (.inr (some (23, 0))))]) [] τ _) h (fun σ2 h => ?_)
    refine q_ex_go 2 (pc' := 16) (L' := (q_L [(0, .inr (.inr (some (0, 0)))), (1, .inl l1), (2, .inr (.inr (some (23, 0))))])) (st' := [.inl 0]) (σ' := σ2) (fun _ => rfl) ?_
    cases h
    exact ⟨1, rfl⟩
theorem L_tick_e {n : Nat} {r0 : (Int32 ⊕ Nat) × J} {f : Nat} {x1 : Int32} {σ : J} (h : L_tick n f x1 σ = some r0) : q_ex q_pr n 10 140 0 (q_args 0 [.inr (.inr (some (0, 0))), .inl x1, .inr (.inr (some (23, 0)))]) [] σ (L_tick_r r0) := q_ex_ll (L_tick_b0_e h) ⟨rfl, rfl, rfl, trivial⟩
