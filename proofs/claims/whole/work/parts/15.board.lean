/-! Functions of methods, and their runs. Ours, written by fun.py -/
def JB_sessionAt_r : (Nat ⊕ Nat) × J → Res := fun q => ((match q.1 with | .inl r => .inl (some (.inr (.inr (some (16, r))))) | .inr e => .inr e), q.2)
-- 31: JB_sessionAt
def JB_sessionAt_b13 (n : Nat) (σ : J) : Option ((Nat ⊕ Nat) × J) := some (.inr 1, σ)
def JB_sessionAt_b0 (n : Nat) (l1 : Int32) (σ : J) : Option ((Nat ⊕ Nat) × J) := if l1 < 0 then JB_sessionAt_b13 n σ else if l1 < (Int32.ofNat (0 + n)) then if q_in l1 (0 + n) = true then if Nat.blt (σ.2.2.2 1 0 l1.toNatClampNeg) (0 + n) = true then some (.inl (σ.2.2.2 1 0 l1.toNatClampNeg), σ) else none else none else JB_sessionAt_b13 n σ
def JB_sessionAt (n : Nat) (x1 : Int32) (σ : J) : Option ((Nat ⊕ Nat) × J) := JB_sessionAt_b0 n x1 σ
theorem JB_sessionAt_b13_e {n : Nat} {r0 : (Nat ⊕ Nat) × J} {σ : J} (h : JB_sessionAt_b13 n σ = some r0) : q_ex q_pr n 0 31 13 (q_L []) [] σ (JB_sessionAt_r r0) := by
  unfold JB_sessionAt_b13 at h
  cases h
  exact ⟨1, rfl⟩
theorem JB_sessionAt_b0_e {n : Nat} {r0 : (Nat ⊕ Nat) × J} {l1 : Int32} {σ : J} (h : JB_sessionAt_b0 n l1 σ = some r0) : q_ex q_pr n 0 31 0 (q_L [(0, .inr (.inr (some (0, 0)))), (1, .inl l1)]) [] σ (JB_sessionAt_r r0) := by
  unfold JB_sessionAt_b0 at h
  refine q_ex_br 2 (c := l1 < 0) (pc1 := 13) (pc2 := 4) (L' := (q_L [(0, .inr (.inr (some (0, 0)))), (1, .inl l1)])) (st' := []) (σ' := σ) (fun _ => rfl) (fun hc => ?_) (fun hc => ?_)
  · rw [if_pos hc] at h
    exact q_ex_ll (JB_sessionAt_b13_e h) trivial
  · rw [if_neg hc] at h
    refine q_ex_br 5 (c := l1 < (Int32.ofNat (0 + n))) (pc1 := 21) (pc2 := 13) (L' := (q_L [(0, .inr (.inr (some (0, 0)))), (1, .inl l1)])) (st' := []) (σ' := σ) (fun _ => rfl) (fun hc => ?_) (fun hc => ?_)
    · rw [if_pos hc] at h
      refine q_by h (fun hz h => ?_)
      refine q_by h (fun hy h => ?_)
      refine q_ex_g2 4 (pc' := 27) (L' := (q_L [(0, .inr (.inr (some (0, 0)))), (1, .inl l1)])) (st' := [.inr (.inr (some (16, σ.2.2.2 1 0 l1.toNatClampNeg)))]) (σ' := σ) (fun _ => rfl) hz hy ?_
      cases h
      exact ⟨1, rfl⟩
    · rw [if_neg hc] at h
      exact q_ex_ll (JB_sessionAt_b13_e h) trivial
theorem JB_sessionAt_e {n : Nat} {r0 : (Nat ⊕ Nat) × J} {x1 : Int32} {σ : J} (h : JB_sessionAt n x1 σ = some r0) : q_ex q_pr n 0 31 0 (q_args 0 [.inr (.inr (some (0, 0))), .inl x1]) [] σ (JB_sessionAt_r r0) := q_ex_ll (JB_sessionAt_b0_e h) ⟨rfl, rfl, trivial⟩
def JB_readySession_r : (Nat ⊕ Nat) × J → Res := fun q => ((match q.1 with | .inl r => .inl (some (.inr (.inr (some (16, r))))) | .inr e => .inr e), q.2)
-- 24: JB_readySession
def JB_readySession_b0 (n : Nat) (l1 : Int32) (σ : J) : Option ((Nat ⊕ Nat) × J) := (JB_sessionAt n l1 σ).bind fun q1 => (match q1.1 with | .inl r1 => if Nat.blt r1 (0 + n) = true then if (q1.2.1 16 5 r1) = 1 then some (.inr 2, q1.2) else some (.inl r1, q1.2) else none | .inr k0 => some (.inr k0, q1.2))
def JB_readySession (n : Nat) (x1 : Int32) (σ : J) : Option ((Nat ⊕ Nat) × J) := JB_readySession_b0 n x1 σ
theorem JB_readySession_b0_e {n : Nat} {r0 : (Nat ⊕ Nat) × J} {l1 : Int32} {σ : J} (h : JB_readySession_b0 n l1 σ = some r0) : q_ex q_pr n 1 24 0 (q_L [(0, .inr (.inr (some (0, 0)))), (1, .inl l1)]) [] σ (JB_readySession_r r0) := by
  unfold JB_readySession_b0 at h
  obtain ⟨q1, hq1, h⟩ := Option.bind_eq_some_iff.mp h
  obtain ⟨q1, σ1⟩ := q1
  cases q1 with
  | inr k0 =>
    cases h
    exact q_ex_cx 3 (k1 := 31) (vs := [.inr (.inr (some (0, 0))), .inl l1]) (pc' := 5) (L' := (q_L [(0, .inr (.inr (some (0, 0)))), (1, .inl l1)])) (rest := []) (σ' := σ) (fun _ => rfl) (q_ex_dd (JB_sessionAt_e hq1) (Nat.le_of_ble_eq_true rfl))
  | inl r1 =>
    refine q_by h (fun hy h => ?_)
    refine q_ex_ca 3 (k1 := 31) (vs := [.inr (.inr (some (0, 0))), .inl l1]) (pc' := 5) (L' := (q_L [(0, .inr (.inr (some (0, 0)))), (1, .inl l1)])) (rest := []) (σ' := σ) (fun _ => rfl) (q_ex_dd (JB_sessionAt_e hq1) (Nat.le_of_ble_eq_true rfl)) hy ?_
    refine q_ex_br 5 (c := (σ1.1 16 5 r1) = 1) (pc1 := 14) (pc2 := 22) (L' := (q_s1 (q_L [(0, .inr (.inr (some (0, 0)))), (1, .inl l1)]) 2 (.inr (.inr (some (16, r1)))))) (st' := []) (σ' := σ1) (fun _ => rfl) (fun hc => ?_) (fun hc => ?_)
    · rw [if_pos hc] at h
      cases h
      exact ⟨1, rfl⟩
    · rw [if_neg hc] at h
      refine q_ex_go 1 (pc' := 23) (L' := (q_s1 (q_L [(0, .inr (.inr (some (0, 0)))), (1, .inl l1)]) 2 (.inr (.inr (some (16, r1)))))) (st' := [.inr (.inr (some (16, r1)))]) (σ' := σ1) (fun _ => rfl) ?_
      cases h
      exact ⟨1, rfl⟩
theorem JB_readySession_e {n : Nat} {r0 : (Nat ⊕ Nat) × J} {x1 : Int32} {σ : J} (h : JB_readySession n x1 σ = some r0) : q_ex q_pr n 1 24 0 (q_args 0 [.inr (.inr (some (0, 0))), .inl x1]) [] σ (JB_readySession_r r0) := q_ex_ll (JB_readySession_b0_e h) ⟨rfl, rfl, trivial⟩
def JB_abandonDownTo_r : (Int32) × J → Res := fun q => (.inl (some (.inl q.1)), q.2)
-- 1: JB_abandonDownTo
def JB_abandonDownTo_b8 (n : Nat) (k8 : Nat → Int32 → Int32 → Int32 → J → Option ((Int32) × J)) (f : Nat) (l1 : Nat) (l2 : Int32) (l3 : Int32) (l4 : Int32) (σ : J) : Option ((Int32) × J) := if l4 < l2 then q_bs (q_sI σ 16 4 l1 (l2 - 1)) fun σ1 => if l3 &&& 1 = l3 then some (l3, σ1) else none else (Board_undo n f (σ.1 16 0 l1) l4 σ).bind fun q2 => k8 l1 l2 (l3 ||| q2.1) (l4 + (-1)) q2.2
def JB_abandonDownTo_L8 (n : Nat) : Nat → Nat → Int32 → Int32 → Int32 → J → Option ((Int32) × J)
  | 0 => fun _ _ _ _ _ => none
  | f + 1 => fun l1 l2 l3 l4 σ => JB_abandonDownTo_b8 n (JB_abandonDownTo_L8 n f) f l1 l2 l3 l4 σ
def JB_abandonDownTo_b0 (n : Nat) (f : Nat) (l1 : Nat) (l2 : Int32) (σ : J) : Option ((Int32) × J) := JB_abandonDownTo_L8 n f l1 l2 0 (σ.1 16 4 l1) σ
def JB_abandonDownTo (n : Nat) (f : Nat) (x1 : Nat) (x2 : Int32) (σ : J) : Option ((Int32) × J) := JB_abandonDownTo_b0 n f x1 x2 σ
theorem JB_abandonDownTo_b8_e {n : Nat} {r0 : (Int32) × J} {k8 : Nat → Int32 → Int32 → Int32 → J → Option ((Int32) × J)} {f : Nat} {l1 : Nat} {l2 : Int32} {l3 : Int32} {l4 : Int32} {σ : J} (hk8 : ∀ {l1 : Nat} {l2 : Int32} {l3 : Int32} {l4 : Int32} {σ : J}, k8 l1 l2 l3 l4 σ = some r0 → q_ex q_pr n 2 1 8 (q_L [(0, .inr (.inr (some (0, 0)))), (1, .inr (.inr (some (16, l1)))), (2, .inl l2), (3, .inl l3), (4, .inl l4)]) [] σ (JB_abandonDownTo_r r0)) (h : JB_abandonDownTo_b8 n k8 f l1 l2 l3 l4 σ = some r0) : q_ex q_pr n 2 1 8 (q_L [(0, .inr (.inr (some (0, 0)))), (1, .inr (.inr (some (16, l1)))), (2, .inl l2), (3, .inl l3), (4, .inl l4)]) [] σ (JB_abandonDownTo_r r0) := by
  unfold JB_abandonDownTo_b8 at h
  refine q_ex_br 3 (c := l4 < l2) (pc1 := 36) (pc2 := 14) (L' := (q_L [(0, .inr (.inr (some (0, 0)))), (1, .inr (.inr (some (16, l1)))), (2, .inl l2), (3, .inl l3), (4, .inl l4)])) (st' := []) (σ' := σ) (fun _ => rfl) (fun hc => ?_) (fun hc => ?_)
  · rw [if_pos hc] at h
    refine q_ex_go 5 (pc' := 43) (L' := (q_L [(0, .inr (.inr (some (0, 0)))), (1, .inr (.inr (some (16, l1)))), (2, .inl l2), (3, .inl l3), (4, .inl l4)])) (st' := []) (σ' := (q_sI σ 16 4 l1 (l2 - 1))) (fun _ => rfl) ?_
    refine q_nm (G := fun τ => q_ex q_pr n _ 1 43 (q_L [(0, .inr (.inr (some (0, 0)))), (1, .inr (.inr (some (16, l1)))), (2, .inl l2), (3, .inl l3), (4, .inl l4)]) [] τ _) h (fun σ1 h => ?_)
    refine q_ex_go 1 (pc' := 44) (L' := (q_L [(0, .inr (.inr (some (0, 0)))), (1, .inr (.inr (some (16, l1)))), (2, .inl l2), (3, .inl l3), (4, .inl l4)])) (st' := [.inl l3]) (σ' := σ1) (fun _ => rfl) ?_
    refine q_by h (fun hz h => ?_)
    cases h
    exact ⟨1, if_pos (e := (none : Option Res)) hz⟩
  · rw [if_neg hc] at h
    obtain ⟨q2, hq2, h⟩ := Option.bind_eq_some_iff.mp h
    refine q_ex_ca 7 (k1 := 42) (vs := [.inr (.inr (some (2, 0))), .inl (σ.1 16 0 l1), .inl l4]) (pc' := 28) (L' := (q_L [(0, .inr (.inr (some (0, 0)))), (1, .inr (.inr (some (16, l1)))), (2, .inl l2), (3, .inl l3), (4, .inl l4)])) (rest := [.inl l3]) (σ' := σ) (fun _ => rfl) (q_ex_dd (Board_undo_e hq2) (Nat.le_of_ble_eq_true rfl)) rfl ?_
    refine q_ex_go 4 (pc' := 8) (L' := (q_s1 (q_s1 (q_L [(0, .inr (.inr (some (0, 0)))), (1, .inr (.inr (some (16, l1)))), (2, .inl l2), (3, .inl l3), (4, .inl l4)]) 3 (.inl (l3 ||| q2.1))) 4 (.inl (l4 + (-1))))) (st' := []) (σ' := q2.2) (fun _ => rfl) ?_
    exact q_ex_ll (hk8 h) ⟨rfl, rfl, rfl, rfl, rfl, trivial⟩
theorem JB_abandonDownTo_L8_e {n : Nat} {r0 : (Int32) × J} (f : Nat) : ∀ {l1 : Nat} {l2 : Int32} {l3 : Int32} {l4 : Int32} {σ : J}, JB_abandonDownTo_L8 n f l1 l2 l3 l4 σ = some r0 → q_ex q_pr n 2 1 8 (q_L [(0, .inr (.inr (some (0, 0)))), (1, .inr (.inr (some (16, l1)))), (2, .inl l2), (3, .inl l3), (4, .inl l4)]) [] σ (JB_abandonDownTo_r r0) := by
  induction f with
  | zero => intro l1 l2 l3 l4 σ h; cases h
  | succ f ih =>
    intro l1 l2 l3 l4 σ h
    exact JB_abandonDownTo_b8_e (f := f)  (fun h => ih h) h
theorem JB_abandonDownTo_b0_e {n : Nat} {r0 : (Int32) × J} {f : Nat} {l1 : Nat} {l2 : Int32} {σ : J} (h : JB_abandonDownTo_b0 n f l1 l2 σ = some r0) : q_ex q_pr n 2 1 0 (q_L [(0, .inr (.inr (some (0, 0)))), (1, .inr (.inr (some (16, l1)))), (2, .inl l2)]) [] σ (JB_abandonDownTo_r r0) := by
  unfold JB_abandonDownTo_b0 at h
  refine q_ex_go 5 (pc' := 8) (L' := (q_s1 (q_s1 (q_L [(0, .inr (.inr (some (0, 0)))), (1, .inr (.inr (some (16, l1)))), (2, .inl l2)]) 3 (.inl 0)) 4 (.inl (σ.1 16 4 l1)))) (st' := []) (σ' := σ) (fun _ => rfl) ?_
  exact q_ex_ll (JB_abandonDownTo_L8_e f h) ⟨rfl, rfl, rfl, rfl, rfl, trivial⟩
theorem JB_abandonDownTo_e {n : Nat} {r0 : (Int32) × J} {f : Nat} {x1 : Nat} {x2 : Int32} {σ : J} (h : JB_abandonDownTo n f x1 x2 σ = some r0) : q_ex q_pr n 2 1 0 (q_args 0 [.inr (.inr (some (0, 0))), .inr (.inr (some (16, x1))), .inl x2]) [] σ (JB_abandonDownTo_r r0) := q_ex_ll (JB_abandonDownTo_b0_e h) ⟨rfl, rfl, rfl, trivial⟩
def JB_extend_r : (Int32) × J → Res := fun q => (.inl (some (.inl q.1)), q.2)
-- 8: JB_extend
def JB_extend_b141 (n : Nat) (self : Nat → Int32 → Int32 → J → Option ((Int32) × J)) (k10 : Nat → Int32 → Int32 → Int32 → J → Option ((Int32) × J)) (f : Nat) (l1 : Nat) (l2 : Int32) (l3 : Int32) (l4 : Int32) (σ : J) : Option ((Int32) × J) := k10 l1 l2 l3 (l4 + 1) σ
def JB_extend_b132 (n : Nat) (self : Nat → Int32 → Int32 → J → Option ((Int32) × J)) (k10 : Nat → Int32 → Int32 → Int32 → J → Option ((Int32) × J)) (f : Nat) (l1 : Nat) (l2 : Int32) (l3 : Int32) (l4 : Int32) (l6 : Int32) (σ : J) : Option ((Int32) × J) := q_bs (q_sI σ 12 1 0 l6) fun σ7 => JB_extend_b141 n self k10 f l1 l2 l3 l4 σ7
def JB_extend_b10 (n : Nat) (self : Nat → Int32 → Int32 → J → Option ((Int32) × J)) (k10 : Nat → Int32 → Int32 → Int32 → J → Option ((Int32) × J)) (f : Nat) (l1 : Nat) (l2 : Int32) (l3 : Int32) (l4 : Int32) (σ : J) : Option ((Int32) × J) := if (σ.1 2 1 0) ≤ l4 then if (0 : Int32) &&& 1 = 0 then some (0, σ) else none else if q_in l4 20 = true then if Nat.blt (σ.2.2.2 3 0 l4.toNatClampNeg) 20 = true then (Tuple_isSeenBy n (σ.2.2.2 3 0 l4.toNatClampNeg) (σ.1 16 0 l1) σ).bind fun q1 => if q1.1 = 0 then JB_extend_b141 n self k10 f l1 l2 l3 l4 q1.2 else (Finding_hasNumber n f 0 (q1.2.1 4 1 (σ.2.2.2 3 0 l4.toNatClampNeg)) q1.2).bind fun q2 => if q2.1 = 0 then if q_in l3 3 = true then if Nat.blt (q2.2.2.2.2 17 l1 l3.toNatClampNeg) (6 + 3 * n) = true then (Pattern_fits n f (q2.2.2.2.2 17 l1 l3.toNatClampNeg) (σ.2.2.2 3 0 l4.toNatClampNeg) 0 q2.2).bind fun q3 => if q3.1 = 0 then JB_extend_b132 n self k10 f l1 l2 l3 l4 (q2.2.1 12 1 0) q3.2 else if q_in l3 3 = true then q_bs (q_sA q3.2 13 0 (upd (q3.2.2.1 13 0) l3.toNatClampNeg (q3.2.1 4 1 (σ.2.2.2 3 0 l4.toNatClampNeg)))) fun σ4 => (self l1 l2 (l3 + 1) σ4).bind fun q5 => if q5.1 = 0 then if q_in l3 3 = true then q_bs (q_sA q5.2 13 0 (upd (q5.2.2.1 13 0) l3.toNatClampNeg (-1))) fun σ6 => JB_extend_b132 n self k10 f l1 l2 l3 l4 (q2.2.1 12 1 0) σ6 else none else if (1 : Int32) &&& 1 = 1 then some (1, q5.2) else none else none else none else none else JB_extend_b141 n self k10 f l1 l2 l3 l4 q2.2 else none else none
def JB_extend_L10 (n : Nat) (self : Nat → Int32 → Int32 → J → Option ((Int32) × J)) : Nat → Nat → Int32 → Int32 → Int32 → J → Option ((Int32) × J)
  | 0 => fun _ _ _ _ _ => none
  | f + 1 => fun l1 l2 l3 l4 σ => JB_extend_b10 n self (JB_extend_L10 n self f) f l1 l2 l3 l4 σ
def JB_extend_b0 (n : Nat) (self : Nat → Int32 → Int32 → J → Option ((Int32) × J)) (f : Nat) (l1 : Nat) (l2 : Int32) (l3 : Int32) (σ : J) : Option ((Int32) × J) := if l3 < l2 then JB_extend_L10 n self f l1 l2 l3 0 σ else if (1 : Int32) &&& 1 = 1 then some (1, σ) else none
def JB_extend_g (n f : Nat) : Nat → Nat → Int32 → Int32 → J → Option ((Int32) × J)
  | 0 => fun _ _ _ _ => none
  | g + 1 => fun x1 x2 x3 σ => JB_extend_b0 n (JB_extend_g n f g) f x1 x2 x3 σ
def JB_extend (n f : Nat) (x1 : Nat) (x2 : Int32) (x3 : Int32) (σ : J) : Option ((Int32) × J) := JB_extend_g n f 4 x1 x2 x3 σ
theorem JB_extend_b141_e {n : Nat} {r0 : (Int32) × J} {d : Nat} (hd : 2 ≤ d) {self : Nat → Int32 → Int32 → J → Option ((Int32) × J)} (hself : ∀ {x1 : Nat} {x2 : Int32} {x3 : Int32} {σ : J} {q : (Int32) × J}, self x1 x2 x3 σ = some q → q_ex q_pr n d 8 0 (q_args 0 [.inr (.inr (some (0, 0))), .inr (.inr (some (16, x1))), .inl x2, .inl x3]) [] σ (JB_extend_r q)) {k10 : Nat → Int32 → Int32 → Int32 → J → Option ((Int32) × J)} {f : Nat} {l1 : Nat} {l2 : Int32} {l3 : Int32} {l4 : Int32} {σ : J} (hk10 : ∀ {l1 : Nat} {l2 : Int32} {l3 : Int32} {l4 : Int32} {σ : J}, k10 l1 l2 l3 l4 σ = some r0 → q_ex q_pr n (d + 1) 8 10 (q_L [(0, .inr (.inr (some (0, 0)))), (1, .inr (.inr (some (16, l1)))), (2, .inl l2), (3, .inl l3), (4, .inl l4)]) [] σ (JB_extend_r r0)) (h : JB_extend_b141 n self k10 f l1 l2 l3 l4 σ = some r0) : q_ex q_pr n (d + 1) 8 141 (q_L [(0, .inr (.inr (some (0, 0)))), (1, .inr (.inr (some (16, l1)))), (2, .inl l2), (3, .inl l3), (4, .inl l4)]) [] σ (JB_extend_r r0) := by
  unfold JB_extend_b141 at h
  refine q_ex_go 2 (pc' := 10) (L' := (q_s1 (q_L [(0, .inr (.inr (some (0, 0)))), (1, .inr (.inr (some (16, l1)))), (2, .inl l2), (3, .inl l3), (4, .inl l4)]) 4 (.inl (l4 + 1)))) (st' := []) (σ' := σ) (fun _ => rfl) ?_
  exact q_ex_ll (hk10 h) ⟨rfl, rfl, rfl, rfl, rfl, trivial⟩
theorem JB_extend_b132_e {n : Nat} {r0 : (Int32) × J} {d : Nat} (hd : 2 ≤ d) {self : Nat → Int32 → Int32 → J → Option ((Int32) × J)} (hself : ∀ {x1 : Nat} {x2 : Int32} {x3 : Int32} {σ : J} {q : (Int32) × J}, self x1 x2 x3 σ = some q → q_ex q_pr n d 8 0 (q_args 0 [.inr (.inr (some (0, 0))), .inr (.inr (some (16, x1))), .inl x2, .inl x3]) [] σ (JB_extend_r q)) {k10 : Nat → Int32 → Int32 → Int32 → J → Option ((Int32) × J)} {f : Nat} {l1 : Nat} {l2 : Int32} {l3 : Int32} {l4 : Int32} {l6 : Int32} {σ : J} (hk10 : ∀ {l1 : Nat} {l2 : Int32} {l3 : Int32} {l4 : Int32} {σ : J}, k10 l1 l2 l3 l4 σ = some r0 → q_ex q_pr n (d + 1) 8 10 (q_L [(0, .inr (.inr (some (0, 0)))), (1, .inr (.inr (some (16, l1)))), (2, .inl l2), (3, .inl l3), (4, .inl l4)]) [] σ (JB_extend_r r0)) (h : JB_extend_b132 n self k10 f l1 l2 l3 l4 l6 σ = some r0) : q_ex q_pr n (d + 1) 8 132 (q_L [(0, .inr (.inr (some (0, 0)))), (1, .inr (.inr (some (16, l1)))), (2, .inl l2), (3, .inl l3), (4, .inl l4), (6, .inl l6)]) [] σ (JB_extend_r r0) := by
  unfold JB_extend_b132 at h
  refine q_ex_go 4 (pc' := 141) (L' := (q_L [(0, .inr (.inr (some (0, 0)))), (1, .inr (.inr (some (16, l1)))), (2, .inl l2), (3, .inl l3), (4, .inl l4), (6, .inl l6)])) (st' := []) (σ' := (q_sI σ 12 1 0 l6)) (fun _ => rfl) ?_
  refine q_nm (G := fun τ => q_ex q_pr n _ 8 141 (q_L [(0, .inr (.inr (some (0, 0)))), (1, .inr (.inr (some (16, l1)))), (2, .inl l2), (3, .inl l3), (4, .inl l4), (6, .inl l6)]) [] τ _) h (fun σ7 h => ?_)
  exact q_ex_ll (JB_extend_b141_e hd hself hk10 h) ⟨rfl, rfl, rfl, rfl, rfl, trivial⟩
theorem JB_extend_b10_e {n : Nat} {r0 : (Int32) × J} {d : Nat} (hd : 2 ≤ d) {self : Nat → Int32 → Int32 → J → Option ((Int32) × J)} (hself : ∀ {x1 : Nat} {x2 : Int32} {x3 : Int32} {σ : J} {q : (Int32) × J}, self x1 x2 x3 σ = some q → q_ex q_pr n d 8 0 (q_args 0 [.inr (.inr (some (0, 0))), .inr (.inr (some (16, x1))), .inl x2, .inl x3]) [] σ (JB_extend_r q)) {k10 : Nat → Int32 → Int32 → Int32 → J → Option ((Int32) × J)} {f : Nat} {l1 : Nat} {l2 : Int32} {l3 : Int32} {l4 : Int32} {σ : J} (hk10 : ∀ {l1 : Nat} {l2 : Int32} {l3 : Int32} {l4 : Int32} {σ : J}, k10 l1 l2 l3 l4 σ = some r0 → q_ex q_pr n (d + 1) 8 10 (q_L [(0, .inr (.inr (some (0, 0)))), (1, .inr (.inr (some (16, l1)))), (2, .inl l2), (3, .inl l3), (4, .inl l4)]) [] σ (JB_extend_r r0)) (h : JB_extend_b10 n self k10 f l1 l2 l3 l4 σ = some r0) : q_ex q_pr n (d + 1) 8 10 (q_L [(0, .inr (.inr (some (0, 0)))), (1, .inr (.inr (some (16, l1)))), (2, .inl l2), (3, .inl l3), (4, .inl l4)]) [] σ (JB_extend_r r0) := by
  unfold JB_extend_b10 at h
  refine q_ex_br 5 (c := (σ.1 2 1 0) ≤ l4) (pc1 := 147) (pc2 := 22) (L' := (q_L [(0, .inr (.inr (some (0, 0)))), (1, .inr (.inr (some (16, l1)))), (2, .inl l2), (3, .inl l3), (4, .inl l4)])) (st' := []) (σ' := σ) (fun _ => rfl) (fun hc => ?_) (fun hc => ?_)
  · rw [if_pos hc] at h
    refine q_ex_go 1 (pc' := 148) (L' := (q_L [(0, .inr (.inr (some (0, 0)))), (1, .inr (.inr (some (16, l1)))), (2, .inl l2), (3, .inl l3), (4, .inl l4)])) (st' := [.inl 0]) (σ' := σ) (fun _ => rfl) ?_
    refine q_by h (fun hz h => ?_)
    cases h
    exact ⟨1, if_pos (e := (none : Option Res)) hz⟩
  · rw [if_neg hc] at h
    refine q_by h (fun hz h => ?_)
    refine q_by h (fun hy h => ?_)
    refine q_ex_g2 5 (pc' := 32) (L' := (q_L [(0, .inr (.inr (some (0, 0)))), (1, .inr (.inr (some (16, l1)))), (2, .inl l2), (3, .inl l3), (4, .inl l4)])) (st' := [.inr (.inr (some (4, σ.2.2.2 3 0 l4.toNatClampNeg)))]) (σ' := σ) (fun _ => rfl) hz hy ?_
    obtain ⟨q1, hq1, h⟩ := Option.bind_eq_some_iff.mp h
    refine q_ex_ca 5 (k1 := 73) (vs := [.inr (.inr (some (4, σ.2.2.2 3 0 l4.toNatClampNeg))), .inl (σ.1 16 0 l1)]) (pc' := 43) (L' := (q_s1 (q_L [(0, .inr (.inr (some (0, 0)))), (1, .inr (.inr (some (16, l1)))), (2, .inl l2), (3, .inl l3), (4, .inl l4)]) 5 (.inr (.inr (some (4, σ.2.2.2 3 0 l4.toNatClampNeg)))))) (rest := []) (σ' := σ) (fun _ => rfl) (q_ex_dd (Tuple_isSeenBy_e hq1) (Nat.le_trans (Nat.le_of_ble_eq_true rfl) hd)) rfl ?_
    refine q_ex_br 1 (c := q1.1 = 0) (pc1 := 141) (pc2 := 46) (L' := (q_s1 (q_L [(0, .inr (.inr (some (0, 0)))), (1, .inr (.inr (some (16, l1)))), (2, .inl l2), (3, .inl l3), (4, .inl l4)]) 5 (.inr (.inr (some (4, σ.2.2.2 3 0 l4.toNatClampNeg)))))) (st' := []) (σ' := q1.2) (fun _ => rfl) (fun hc => ?_) (fun hc => ?_)
    · rw [if_pos hc] at h
      exact q_ex_ll (JB_extend_b141_e hd hself hk10 h) ⟨rfl, rfl, rfl, rfl, rfl, trivial⟩
    · rw [if_neg hc] at h
      obtain ⟨q2, hq2, h⟩ := Option.bind_eq_some_iff.mp h
      refine q_ex_ca 5 (k1 := 51) (vs := [.inr (.inr (some (12, 0))), .inl (q1.2.1 4 1 (σ.2.2.2 3 0 l4.toNatClampNeg))]) (pc' := 58) (L' := (q_s1 (q_L [(0, .inr (.inr (some (0, 0)))), (1, .inr (.inr (some (16, l1)))), (2, .inl l2), (3, .inl l3), (4, .inl l4)]) 5 (.inr (.inr (some (4, σ.2.2.2 3 0 l4.toNatClampNeg)))))) (rest := []) (σ' := q1.2) (fun _ => rfl) (q_ex_dd (Finding_hasNumber_e hq2) (Nat.le_trans (Nat.le_of_ble_eq_true rfl) hd)) rfl ?_
      refine q_ex_br 1 (c := q2.1 = 0) (pc1 := 64) (pc2 := 61) (L' := (q_s1 (q_L [(0, .inr (.inr (some (0, 0)))), (1, .inr (.inr (some (16, l1)))), (2, .inl l2), (3, .inl l3), (4, .inl l4)]) 5 (.inr (.inr (some (4, σ.2.2.2 3 0 l4.toNatClampNeg)))))) (st' := []) (σ' := q2.2) (fun _ => rfl) (fun hc => ?_) (fun hc => ?_)
      · rw [if_pos hc] at h
        refine q_by h (fun hz h => ?_)
        refine q_by h (fun hy h => ?_)
        refine q_ex_g2 8 (pc' := 79) (L' := (q_s1 (q_s1 (q_L [(0, .inr (.inr (some (0, 0)))), (1, .inr (.inr (some (16, l1)))), (2, .inl l2), (3, .inl l3), (4, .inl l4)]) 5 (.inr (.inr (some (4, σ.2.2.2 3 0 l4.toNatClampNeg))))) 6 (.inl (q2.2.1 12 1 0)))) (st' := [.inr (.inr (some (8, q2.2.2.2.2 17 l1 l3.toNatClampNeg)))]) (σ' := q2.2) (fun _ => rfl) hz hy ?_
        obtain ⟨q3, hq3, h⟩ := Option.bind_eq_some_iff.mp h
        refine q_ex_ca 5 (k1 := 64) (vs := [.inr (.inr (some (8, q2.2.2.2.2 17 l1 l3.toNatClampNeg))), .inr (.inr (some (5, (σ.2.2.2 3 0 l4.toNatClampNeg)))), .inr (.inr (some (12, 0)))]) (pc' := 91) (L' := (q_s1 (q_s1 (q_L [(0, .inr (.inr (some (0, 0)))), (1, .inr (.inr (some (16, l1)))), (2, .inl l2), (3, .inl l3), (4, .inl l4)]) 5 (.inr (.inr (some (4, σ.2.2.2 3 0 l4.toNatClampNeg))))) 6 (.inl (q2.2.1 12 1 0)))) (rest := []) (σ' := q2.2) (fun _ => rfl) (q_ex_dd (Pattern_fits_e hq3) (Nat.le_trans (Nat.le_of_ble_eq_true rfl) hd)) rfl ?_
        refine q_ex_br 1 (c := q3.1 = 0) (pc1 := 132) (pc2 := 94) (L' := (q_s1 (q_s1 (q_L [(0, .inr (.inr (some (0, 0)))), (1, .inr (.inr (some (16, l1)))), (2, .inl l2), (3, .inl l3), (4, .inl l4)]) 5 (.inr (.inr (some (4, σ.2.2.2 3 0 l4.toNatClampNeg))))) 6 (.inl (q2.2.1 12 1 0)))) (st' := []) (σ' := q3.2) (fun _ => rfl) (fun hc => ?_) (fun hc => ?_)
        · rw [if_pos hc] at h
          exact q_ex_ll (JB_extend_b132_e hd hself hk10 h) ⟨rfl, rfl, rfl, rfl, rfl, rfl, trivial⟩
        · rw [if_neg hc] at h
          refine q_by h (fun hz h => ?_)
          refine q_ex_gb 7 (pc' := 108) (L' := (q_s1 (q_s1 (q_L [(0, .inr (.inr (some (0, 0)))), (1, .inr (.inr (some (16, l1)))), (2, .inl l2), (3, .inl l3), (4, .inl l4)]) 5 (.inr (.inr (some (4, σ.2.2.2 3 0 l4.toNatClampNeg))))) 6 (.inl (q2.2.1 12 1 0)))) (st' := []) (σ' := (q_sA q3.2 13 0 (upd (q3.2.2.1 13 0) l3.toNatClampNeg (q3.2.1 4 1 (σ.2.2.2 3 0 l4.toNatClampNeg))))) (fun _ => rfl) hz ?_
          refine q_nm (G := fun τ => q_ex q_pr n _ 8 108 (q_s1 (q_s1 (q_L [(0, .inr (.inr (some (0, 0)))), (1, .inr (.inr (some (16, l1)))), (2, .inl l2), (3, .inl l3), (4, .inl l4)]) 5 (.inr (.inr (some (4, σ.2.2.2 3 0 l4.toNatClampNeg))))) 6 (.inl (q2.2.1 12 1 0))) [] τ _) h (fun σ4 h => ?_)
          obtain ⟨q5, hq5, h⟩ := Option.bind_eq_some_iff.mp h
          refine q_ex_ca 7 (k1 := 8) (vs := [.inr (.inr (some (0, 0))), .inr (.inr (some (16, l1))), .inl l2, .inl (l3 + 1)]) (pc' := 117) (L' := (q_s1 (q_s1 (q_L [(0, .inr (.inr (some (0, 0)))), (1, .inr (.inr (some (16, l1)))), (2, .inl l2), (3, .inl l3), (4, .inl l4)]) 5 (.inr (.inr (some (4, σ.2.2.2 3 0 l4.toNatClampNeg))))) 6 (.inl (q2.2.1 12 1 0)))) (rest := []) (σ' := σ4) (fun _ => rfl) (hself hq5) rfl ?_
          refine q_ex_br 1 (c := q5.1 = 0) (pc1 := 122) (pc2 := 120) (L' := (q_s1 (q_s1 (q_L [(0, .inr (.inr (some (0, 0)))), (1, .inr (.inr (some (16, l1)))), (2, .inl l2), (3, .inl l3), (4, .inl l4)]) 5 (.inr (.inr (some (4, σ.2.2.2 3 0 l4.toNatClampNeg))))) 6 (.inl (q2.2.1 12 1 0)))) (st' := []) (σ' := q5.2) (fun _ => rfl) (fun hc => ?_) (fun hc => ?_)
          · rw [if_pos hc] at h
            refine q_by h (fun hz h => ?_)
            refine q_ex_gb 6 (pc' := 132) (L' := (q_s1 (q_s1 (q_L [(0, .inr (.inr (some (0, 0)))), (1, .inr (.inr (some (16, l1)))), (2, .inl l2), (3, .inl l3), (4, .inl l4)]) 5 (.inr (.inr (some (4, σ.2.2.2 3 0 l4.toNatClampNeg))))) 6 (.inl (q2.2.1 12 1 0)))) (st' := []) (σ' := (q_sA q5.2 13 0 (upd (q5.2.2.1 13 0) l3.toNatClampNeg (-1)))) (fun _ => rfl) hz ?_
            refine q_nm (G := fun τ => q_ex q_pr n _ 8 132 (q_s1 (q_s1 (q_L [(0, .inr (.inr (some (0, 0)))), (1, .inr (.inr (some (16, l1)))), (2, .inl l2), (3, .inl l3), (4, .inl l4)]) 5 (.inr (.inr (some (4, σ.2.2.2 3 0 l4.toNatClampNeg))))) 6 (.inl (q2.2.1 12 1 0))) [] τ _) h (fun σ6 h => ?_)
            exact q_ex_ll (JB_extend_b132_e hd hself hk10 h) ⟨rfl, rfl, rfl, rfl, rfl, rfl, trivial⟩
          · rw [if_neg hc] at h
            refine q_ex_go 1 (pc' := 121) (L' := (q_s1 (q_s1 (q_L [(0, .inr (.inr (some (0, 0)))), (1, .inr (.inr (some (16, l1)))), (2, .inl l2), (3, .inl l3), (4, .inl l4)]) 5 (.inr (.inr (some (4, σ.2.2.2 3 0 l4.toNatClampNeg))))) 6 (.inl (q2.2.1 12 1 0)))) (st' := [.inl 1]) (σ' := q5.2) (fun _ => rfl) ?_
            refine q_by h (fun hz h => ?_)
            cases h
            exact ⟨1, if_pos (e := (none : Option Res)) hz⟩
      · rw [if_neg hc] at h
        refine q_ex_go 1 (pc' := 141) (L' := (q_s1 (q_L [(0, .inr (.inr (some (0, 0)))), (1, .inr (.inr (some (16, l1)))), (2, .inl l2), (3, .inl l3), (4, .inl l4)]) 5 (.inr (.inr (some (4, σ.2.2.2 3 0 l4.toNatClampNeg)))))) (st' := []) (σ' := q2.2) (fun _ => rfl) ?_
        exact q_ex_ll (JB_extend_b141_e hd hself hk10 h) ⟨rfl, rfl, rfl, rfl, rfl, trivial⟩
theorem JB_extend_L10_e {n : Nat} {r0 : (Int32) × J} {d : Nat} (hd : 2 ≤ d) {self : Nat → Int32 → Int32 → J → Option ((Int32) × J)} (hself : ∀ {x1 : Nat} {x2 : Int32} {x3 : Int32} {σ : J} {q : (Int32) × J}, self x1 x2 x3 σ = some q → q_ex q_pr n d 8 0 (q_args 0 [.inr (.inr (some (0, 0))), .inr (.inr (some (16, x1))), .inl x2, .inl x3]) [] σ (JB_extend_r q)) (f : Nat) : ∀ {l1 : Nat} {l2 : Int32} {l3 : Int32} {l4 : Int32} {σ : J}, JB_extend_L10 n self f l1 l2 l3 l4 σ = some r0 → q_ex q_pr n (d + 1) 8 10 (q_L [(0, .inr (.inr (some (0, 0)))), (1, .inr (.inr (some (16, l1)))), (2, .inl l2), (3, .inl l3), (4, .inl l4)]) [] σ (JB_extend_r r0) := by
  induction f with
  | zero => intro l1 l2 l3 l4 σ h; cases h
  | succ f ih =>
    intro l1 l2 l3 l4 σ h
    exact JB_extend_b10_e (f := f) hd hself (fun h => ih h) h
theorem JB_extend_b0_e {n : Nat} {r0 : (Int32) × J} {d : Nat} (hd : 2 ≤ d) {self : Nat → Int32 → Int32 → J → Option ((Int32) × J)} (hself : ∀ {x1 : Nat} {x2 : Int32} {x3 : Int32} {σ : J} {q : (Int32) × J}, self x1 x2 x3 σ = some q → q_ex q_pr n d 8 0 (q_args 0 [.inr (.inr (some (0, 0))), .inr (.inr (some (16, x1))), .inl x2, .inl x3]) [] σ (JB_extend_r q)) {f : Nat} {l1 : Nat} {l2 : Int32} {l3 : Int32} {σ : J} (h : JB_extend_b0 n self f l1 l2 l3 σ = some r0) : q_ex q_pr n (d + 1) 8 0 (q_L [(0, .inr (.inr (some (0, 0)))), (1, .inr (.inr (some (16, l1)))), (2, .inl l2), (3, .inl l3)]) [] σ (JB_extend_r r0) := by
  unfold JB_extend_b0 at h
  refine q_ex_br 3 (c := l3 < l2) (pc1 := 7) (pc2 := 5) (L' := (q_L [(0, .inr (.inr (some (0, 0)))), (1, .inr (.inr (some (16, l1)))), (2, .inl l2), (3, .inl l3)])) (st' := []) (σ' := σ) (fun _ => rfl) (fun hc => ?_) (fun hc => ?_)
  · rw [if_pos hc] at h
    refine q_ex_go 2 (pc' := 10) (L' := (q_s1 (q_L [(0, .inr (.inr (some (0, 0)))), (1, .inr (.inr (some (16, l1)))), (2, .inl l2), (3, .inl l3)]) 4 (.inl 0))) (st' := []) (σ' := σ) (fun _ => rfl) ?_
    exact q_ex_ll (JB_extend_L10_e hd hself f h) ⟨rfl, rfl, rfl, rfl, rfl, trivial⟩
  · rw [if_neg hc] at h
    refine q_ex_go 1 (pc' := 6) (L' := (q_L [(0, .inr (.inr (some (0, 0)))), (1, .inr (.inr (some (16, l1)))), (2, .inl l2), (3, .inl l3)])) (st' := [.inl 1]) (σ' := σ) (fun _ => rfl) ?_
    refine q_by h (fun hz h => ?_)
    cases h
    exact ⟨1, if_pos (e := (none : Option Res)) hz⟩
theorem JB_extend_g_e {n f : Nat} (g : Nat) : ∀ {r0 : (Int32) × J} {x1 : Nat} {x2 : Int32} {x3 : Int32} {σ : J}, JB_extend_g n f g x1 x2 x3 σ = some r0 → q_ex q_pr n (2 + g) 8 0 (q_args 0 [.inr (.inr (some (0, 0))), .inr (.inr (some (16, x1))), .inl x2, .inl x3]) [] σ (JB_extend_r r0) := by
  induction g with
  | zero => intro r0 x1 x2 x3 σ h; cases h
  | succ g ih =>
    intro r0 x1 x2 x3 σ h
    exact q_ex_ll (JB_extend_b0_e (f := f) (Nat.le_add_right 2 g) (fun h => ih h) h) ⟨rfl, rfl, rfl, rfl, trivial⟩
theorem JB_extend_e {n f : Nat} {r0 : (Int32) × J} {x1 : Nat} {x2 : Int32} {x3 : Int32} {σ : J} (h : JB_extend n f x1 x2 x3 σ = some r0) : q_ex q_pr n 6 8 0 (q_args 0 [.inr (.inr (some (0, 0))), .inr (.inr (some (16, x1))), .inl x2, .inl x3]) [] σ (JB_extend_r r0) := JB_extend_g_e 4 h
def JB_searchFor_r : (Int32) × J → Res := fun q => (.inl (some (.inl q.1)), q.2)
-- 27: JB_searchFor
def JB_searchFor_b0 (n : Nat) (f : Nat) (l1 : Nat) (l2 : Int32) (σ : J) : Option ((Int32) × J) := (Finding_clear n f 0 σ).bind fun q1 => (JB_extend n f l1 l2 0 q1).bind fun q2 => if q2.1 &&& 1 = q2.1 then some (q2.1, q2.2) else none
def JB_searchFor (n : Nat) (f : Nat) (x1 : Nat) (x2 : Int32) (σ : J) : Option ((Int32) × J) := JB_searchFor_b0 n f x1 x2 σ
theorem JB_searchFor_b0_e {n : Nat} {r0 : (Int32) × J} {f : Nat} {l1 : Nat} {l2 : Int32} {σ : J} (h : JB_searchFor_b0 n f l1 l2 σ = some r0) : q_ex q_pr n 7 27 0 (q_L [(0, .inr (.inr (some (0, 0)))), (1, .inr (.inr (some (16, l1)))), (2, .inl l2)]) [] σ (JB_searchFor_r r0) := by
  unfold JB_searchFor_b0 at h
  obtain ⟨q1, hq1, h⟩ := Option.bind_eq_some_iff.mp h
  refine q_ex_ca 3 (k1 := 49) (vs := [.inr (.inr (some (12, 0)))]) (pc' := 7) (L' := (q_L [(0, .inr (.inr (some (0, 0)))), (1, .inr (.inr (some (16, l1)))), (2, .inl l2)])) (rest := []) (σ' := σ) (fun _ => rfl) (q_ex_dd (Finding_clear_e hq1) (Nat.le_of_ble_eq_true rfl)) rfl ?_
  obtain ⟨q2, hq2, h⟩ := Option.bind_eq_some_iff.mp h
  refine q_ex_ca 5 (k1 := 8) (vs := [.inr (.inr (some (0, 0))), .inr (.inr (some (16, l1))), .inl l2, .inl 0]) (pc' := 14) (L' := (q_L [(0, .inr (.inr (some (0, 0)))), (1, .inr (.inr (some (16, l1)))), (2, .inl l2)])) (rest := []) (σ' := q1) (fun _ => rfl) (q_ex_dd (JB_extend_e hq2) (Nat.le_of_ble_eq_true rfl)) rfl ?_
  refine q_by h (fun hz h => ?_)
  cases h
  exact ⟨1, if_pos (e := (none : Option Res)) hz⟩
theorem JB_searchFor_e {n : Nat} {r0 : (Int32) × J} {f : Nat} {x1 : Nat} {x2 : Int32} {σ : J} (h : JB_searchFor n f x1 x2 σ = some r0) : q_ex q_pr n 7 27 0 (q_args 0 [.inr (.inr (some (0, 0))), .inr (.inr (some (16, x1))), .inl x2]) [] σ (JB_searchFor_r r0) := q_ex_ll (JB_searchFor_b0_e h) ⟨rfl, rfl, rfl, trivial⟩
def JB_grant_r : J → Res := fun σ => (.inl none, σ)
-- 16: JB_grant
def JB_grant_b61 (n : Nat) (k21 : Nat → Int32 → J → Option (J)) (f : Nat) (l1 : Nat) (l2 : Int32) (σ : J) : Option (J) := k21 l1 (l2 + 1) σ
def JB_grant_b21 (n : Nat) (k21 : Nat → Int32 → J → Option (J)) (f : Nat) (l1 : Nat) (l2 : Int32) (σ : J) : Option (J) := if (σ.1 16 6 l1) ≤ l2 then some σ else (Finding_numberFor n 0 l2 σ).bind fun q2 => (Board_lookUp n f q2.1 q2.2).bind fun q3 => (match q3.1 with | none => JB_grant_b61 n k21 f l1 l2 q3.2 | some t3 => if Nat.blt t3 20 = true then (Tuple_takeFor n t3 (q3.2.1 16 0 l1) (q3.2.1 16 4 l1) q3.2).bind fun q4 => JB_grant_b61 n k21 f l1 l2 q4 else none)
def JB_grant_L21 (n : Nat) : Nat → Nat → Int32 → J → Option (J)
  | 0 => fun _ _ _ => none
  | f + 1 => fun l1 l2 σ => JB_grant_b21 n (JB_grant_L21 n f) f l1 l2 σ
def JB_grant_b0 (n : Nat) (f : Nat) (l1 : Nat) (σ : J) : Option (J) := (Finding_copyFrom n (l1 + 1) 0 σ).bind fun q1 => if (q1.1 16 7 l1) = 0 then some q1 else JB_grant_L21 n f l1 0 q1
def JB_grant (n : Nat) (f : Nat) (x1 : Nat) (σ : J) : Option (J) := JB_grant_b0 n f x1 σ
theorem JB_grant_b61_e {n : Nat} {r0 : J} {k21 : Nat → Int32 → J → Option (J)} {f : Nat} {l1 : Nat} {l2 : Int32} {σ : J} (hk21 : ∀ {l1 : Nat} {l2 : Int32} {σ : J}, k21 l1 l2 σ = some r0 → q_ex q_pr n 1 16 21 (q_L [(0, .inr (.inr (some (0, 0)))), (1, .inr (.inr (some (16, l1)))), (2, .inl l2)]) [] σ (JB_grant_r r0)) (h : JB_grant_b61 n k21 f l1 l2 σ = some r0) : q_ex q_pr n 1 16 61 (q_L [(0, .inr (.inr (some (0, 0)))), (1, .inr (.inr (some (16, l1)))), (2, .inl l2)]) [] σ (JB_grant_r r0) := by
  unfold JB_grant_b61 at h
  refine q_ex_go 2 (pc' := 21) (L' := (q_s1 (q_L [(0, .inr (.inr (some (0, 0)))), (1, .inr (.inr (some (16, l1)))), (2, .inl l2)]) 2 (.inl (l2 + 1)))) (st' := []) (σ' := σ) (fun _ => rfl) ?_
  exact q_ex_ll (hk21 h) ⟨rfl, rfl, rfl, trivial⟩
theorem JB_grant_b21_e {n : Nat} {r0 : J} {k21 : Nat → Int32 → J → Option (J)} {f : Nat} {l1 : Nat} {l2 : Int32} {σ : J} (hk21 : ∀ {l1 : Nat} {l2 : Int32} {σ : J}, k21 l1 l2 σ = some r0 → q_ex q_pr n 1 16 21 (q_L [(0, .inr (.inr (some (0, 0)))), (1, .inr (.inr (some (16, l1)))), (2, .inl l2)]) [] σ (JB_grant_r r0)) (h : JB_grant_b21 n k21 f l1 l2 σ = some r0) : q_ex q_pr n 1 16 21 (q_L [(0, .inr (.inr (some (0, 0)))), (1, .inr (.inr (some (16, l1)))), (2, .inl l2)]) [] σ (JB_grant_r r0) := by
  unfold JB_grant_b21 at h
  refine q_ex_br 4 (c := (σ.1 16 6 l1) ≤ l2) (pc1 := 67) (pc2 := 29) (L' := (q_L [(0, .inr (.inr (some (0, 0)))), (1, .inr (.inr (some (16, l1)))), (2, .inl l2)])) (st' := []) (σ' := σ) (fun _ => rfl) (fun hc => ?_) (fun hc => ?_)
  · rw [if_pos hc] at h
    cases h
    exact ⟨1, rfl⟩
  · rw [if_neg hc] at h
    obtain ⟨q2, hq2, h⟩ := Option.bind_eq_some_iff.mp h
    refine q_ex_ca 6 (k1 := 54) (vs := [.inr (.inr (some (12, 0))), .inl l2]) (pc' := 41) (L' := (q_L [(0, .inr (.inr (some (0, 0)))), (1, .inr (.inr (some (16, l1)))), (2, .inl l2)])) (rest := [.inr (.inr (some (2, 0)))]) (σ' := σ) (fun _ => rfl) (q_ex_dd (Finding_numberFor_e hq2) (Nat.le_of_ble_eq_true rfl)) rfl ?_
    obtain ⟨q3, hq3, h⟩ := Option.bind_eq_some_iff.mp h
    obtain ⟨q3, σ3⟩ := q3
    cases q3 with
    | none =>
      refine q_ex_ca 1 (k1 := 41) (vs := [.inr (.inr (some (2, 0))), .inl q2.1]) (pc' := 44) (L' := (q_L [(0, .inr (.inr (some (0, 0)))), (1, .inr (.inr (some (16, l1)))), (2, .inl l2)])) (rest := []) (σ' := q2.2) (fun _ => rfl) (q_ex_dd (Board_lookUp_e hq3) (Nat.le_of_ble_eq_true rfl)) rfl ?_
      refine q_ex_go 3 (pc' := 61) (L' := (q_s1 (q_L [(0, .inr (.inr (some (0, 0)))), (1, .inr (.inr (some (16, l1)))), (2, .inl l2)]) 3 (.inr (.inr none)))) (st' := []) (σ' := σ3) (fun _ => rfl) ?_
      exact q_ex_ll (JB_grant_b61_e hk21 h) ⟨rfl, rfl, rfl, trivial⟩
    | some t3 =>
      refine q_by h (fun hy h => ?_)
      refine q_ex_ca 1 (k1 := 41) (vs := [.inr (.inr (some (2, 0))), .inl q2.1]) (pc' := 44) (L' := (q_L [(0, .inr (.inr (some (0, 0)))), (1, .inr (.inr (some (16, l1)))), (2, .inl l2)])) (rest := []) (σ' := q2.2) (fun _ => rfl) (q_ex_dd (Board_lookUp_e hq3) (Nat.le_of_ble_eq_true rfl)) hy ?_
      obtain ⟨q4, hq4, h⟩ := Option.bind_eq_some_iff.mp h
      refine q_ex_ca 9 (k1 := 78) (vs := [.inr (.inr (some (4, t3))), .inl (σ3.1 16 0 l1), .inl (σ3.1 16 4 l1)]) (pc' := 61) (L' := (q_s1 (q_L [(0, .inr (.inr (some (0, 0)))), (1, .inr (.inr (some (16, l1)))), (2, .inl l2)]) 3 (.inr (.inr (some (4, t3)))))) (rest := []) (σ' := σ3) (fun _ => rfl) (q_ex_dd (Tuple_takeFor_e hq4) (Nat.le_of_ble_eq_true rfl)) rfl ?_
      exact q_ex_ll (JB_grant_b61_e hk21 h) ⟨rfl, rfl, rfl, trivial⟩
theorem JB_grant_L21_e {n : Nat} {r0 : J} (f : Nat) : ∀ {l1 : Nat} {l2 : Int32} {σ : J}, JB_grant_L21 n f l1 l2 σ = some r0 → q_ex q_pr n 1 16 21 (q_L [(0, .inr (.inr (some (0, 0)))), (1, .inr (.inr (some (16, l1)))), (2, .inl l2)]) [] σ (JB_grant_r r0) := by
  induction f with
  | zero => intro l1 l2 σ h; cases h
  | succ f ih =>
    intro l1 l2 σ h
    exact JB_grant_b21_e (f := f)  (fun h => ih h) h
theorem JB_grant_b0_e {n : Nat} {r0 : J} {f : Nat} {l1 : Nat} {σ : J} (h : JB_grant_b0 n f l1 σ = some r0) : q_ex q_pr n 1 16 0 (q_L [(0, .inr (.inr (some (0, 0)))), (1, .inr (.inr (some (16, l1))))]) [] σ (JB_grant_r r0) := by
  unfold JB_grant_b0 at h
  obtain ⟨q1, hq1, h⟩ := Option.bind_eq_some_iff.mp h
  refine q_ex_ca 5 (k1 := 50) (vs := [.inr (.inr (some (12, (l1 + 1)))), .inr (.inr (some (12, 0)))]) (pc' := 11) (L' := (q_L [(0, .inr (.inr (some (0, 0)))), (1, .inr (.inr (some (16, l1))))])) (rest := []) (σ' := σ) (fun _ => rfl) (q_ex_dd (Finding_copyFrom_e hq1) (Nat.le_of_ble_eq_true rfl)) rfl ?_
  refine q_ex_br 3 (c := (q1.1 16 7 l1) = 0) (pc1 := 18) (pc2 := 19) (L' := (q_L [(0, .inr (.inr (some (0, 0)))), (1, .inr (.inr (some (16, l1))))])) (st' := []) (σ' := q1) (fun _ => rfl) (fun hc => ?_) (fun hc => ?_)
  · rw [if_pos hc] at h
    cases h
    exact ⟨1, rfl⟩
  · rw [if_neg hc] at h
    refine q_ex_go 2 (pc' := 21) (L' := (q_s1 (q_L [(0, .inr (.inr (some (0, 0)))), (1, .inr (.inr (some (16, l1))))]) 2 (.inl 0))) (st' := []) (σ' := q1) (fun _ => rfl) ?_
    exact q_ex_ll (JB_grant_L21_e f h) ⟨rfl, rfl, rfl, trivial⟩
theorem JB_grant_e {n : Nat} {r0 : J} {f : Nat} {x1 : Nat} {σ : J} (h : JB_grant n f x1 σ = some r0) : q_ex q_pr n 1 16 0 (q_args 0 [.inr (.inr (some (0, 0))), .inr (.inr (some (16, x1)))]) [] σ (JB_grant_r r0) := q_ex_ll (JB_grant_b0_e h) ⟨rfl, rfl, trivial⟩
def JB_endWait_r : J → Res := fun σ => (.inl none, σ)
-- 7: JB_endWait
def JB_endWait_b0 (n : Nat) (f : Nat) (l1 : Nat) (l2 : Int32) (σ : J) : Option (J) := q_bs (q_sI σ 16 5 l1 l2) fun σ1 => (Line_remove n f (σ1.1 16 0 l1) σ1).bind fun q2 => some q2
def JB_endWait (n : Nat) (f : Nat) (x1 : Nat) (x2 : Int32) (σ : J) : Option (J) := JB_endWait_b0 n f x1 x2 σ
theorem JB_endWait_b0_e {n : Nat} {r0 : J} {f : Nat} {l1 : Nat} {l2 : Int32} {σ : J} (h : JB_endWait_b0 n f l1 l2 σ = some r0) : q_ex q_pr n 2 7 0 (q_L [(0, .inr (.inr (some (0, 0)))), (1, .inr (.inr (some (16, l1)))), (2, .inl l2)]) [] σ (JB_endWait_r r0) := by
  unfold JB_endWait_b0 at h
  refine q_ex_go 3 (pc' := 5) (L' := (q_L [(0, .inr (.inr (some (0, 0)))), (1, .inr (.inr (some (16, l1)))), (2, .inl l2)])) (st' := []) (σ' := (q_sI σ 16 5 l1 l2)) (fun _ => rfl) ?_
  refine q_nm (G := fun τ => q_ex q_pr n _ 7 5 (q_L [(0, .inr (.inr (some (0, 0)))), (1, .inr (.inr (some (16, l1)))), (2, .inl l2)]) [] τ _) h (fun σ1 h => ?_)
  obtain ⟨q2, hq2, h⟩ := Option.bind_eq_some_iff.mp h
  refine q_ex_ca 5 (k1 := 58) (vs := [.inr (.inr (some (21, 0))), .inl (σ1.1 16 0 l1)]) (pc' := 16) (L' := (q_L [(0, .inr (.inr (some (0, 0)))), (1, .inr (.inr (some (16, l1)))), (2, .inl l2)])) (rest := []) (σ' := σ1) (fun _ => rfl) (q_ex_dd (Line_remove_e hq2) (Nat.le_of_ble_eq_true rfl)) rfl ?_
  cases h
  exact ⟨1, rfl⟩
theorem JB_endWait_e {n : Nat} {r0 : J} {f : Nat} {x1 : Nat} {x2 : Int32} {σ : J} (h : JB_endWait n f x1 x2 σ = some r0) : q_ex q_pr n 2 7 0 (q_args 0 [.inr (.inr (some (0, 0))), .inr (.inr (some (16, x1))), .inl x2]) [] σ (JB_endWait_r r0) := q_ex_ll (JB_endWait_b0_e h) ⟨rfl, rfl, rfl, trivial⟩
def JB_serveLine_r : J → Res := fun σ => (.inl none, σ)
-- 29: JB_serveLine
def JB_serveLine_b58 (n : Nat) (k10 : Int32 → Int32 → J → Option (J)) (f : Nat) (l1 : Int32) (l2 : Int32) (σ : J) : Option (J) := k10 l1 (l2 + (-1)) σ
def JB_serveLine_b10 (n : Nat) (k10 : Int32 → Int32 → J → Option (J)) (f : Nat) (l1 : Int32) (l2 : Int32) (σ : J) : Option (J) := if l2 ≤ 0 then some σ else if q_in l1 4 = true then if q_in (σ.2.1 22 0 l1.toNatClampNeg) (0 + n) = true then if Nat.blt (σ.2.2.2 1 0 (σ.2.1 22 0 l1.toNatClampNeg).toNatClampNeg) (0 + n) = true then (JB_searchFor n f (σ.2.2.2 1 0 (σ.2.1 22 0 l1.toNatClampNeg).toNatClampNeg) (σ.1 16 6 (σ.2.2.2 1 0 (σ.2.1 22 0 l1.toNatClampNeg).toNatClampNeg)) σ).bind fun q1 => if q1.1 = 0 then JB_serveLine_b58 n k10 f (l1 + 1) l2 q1.2 else (JB_grant n f (σ.2.2.2 1 0 (σ.2.1 22 0 l1.toNatClampNeg).toNatClampNeg) q1.2).bind fun q2 => (JB_endWait n f (σ.2.2.2 1 0 (σ.2.1 22 0 l1.toNatClampNeg).toNatClampNeg) 2 q2).bind fun q3 => JB_serveLine_b58 n k10 f l1 l2 q3 else none else none else none
def JB_serveLine_L10 (n : Nat) : Nat → Int32 → Int32 → J → Option (J)
  | 0 => fun _ _ _ => none
  | f + 1 => fun l1 l2 σ => JB_serveLine_b10 n (JB_serveLine_L10 n f) f l1 l2 σ
def JB_serveLine_b0 (n : Nat) (f : Nat) (σ : J) : Option (J) := JB_serveLine_L10 n f 0 (σ.1 21 1 0) σ
def JB_serveLine (n : Nat) (f : Nat) (σ : J) : Option (J) := JB_serveLine_b0 n f σ
theorem JB_serveLine_b58_e {n : Nat} {r0 : J} {k10 : Int32 → Int32 → J → Option (J)} {f : Nat} {l1 : Int32} {l2 : Int32} {σ : J} (hk10 : ∀ {l1 : Int32} {l2 : Int32} {σ : J}, k10 l1 l2 σ = some r0 → q_ex q_pr n 8 29 10 (q_L [(0, .inr (.inr (some (0, 0)))), (1, .inl l1), (2, .inl l2)]) [] σ (JB_serveLine_r r0)) (h : JB_serveLine_b58 n k10 f l1 l2 σ = some r0) : q_ex q_pr n 8 29 58 (q_L [(0, .inr (.inr (some (0, 0)))), (1, .inl l1), (2, .inl l2)]) [] σ (JB_serveLine_r r0) := by
  unfold JB_serveLine_b58 at h
  refine q_ex_go 2 (pc' := 10) (L' := (q_s1 (q_L [(0, .inr (.inr (some (0, 0)))), (1, .inl l1), (2, .inl l2)]) 2 (.inl (l2 + (-1))))) (st' := []) (σ' := σ) (fun _ => rfl) ?_
  exact q_ex_ll (hk10 h) ⟨rfl, rfl, rfl, trivial⟩
theorem JB_serveLine_b10_e {n : Nat} {r0 : J} {k10 : Int32 → Int32 → J → Option (J)} {f : Nat} {l1 : Int32} {l2 : Int32} {σ : J} (hk10 : ∀ {l1 : Int32} {l2 : Int32} {σ : J}, k10 l1 l2 σ = some r0 → q_ex q_pr n 8 29 10 (q_L [(0, .inr (.inr (some (0, 0)))), (1, .inl l1), (2, .inl l2)]) [] σ (JB_serveLine_r r0)) (h : JB_serveLine_b10 n k10 f l1 l2 σ = some r0) : q_ex q_pr n 8 29 10 (q_L [(0, .inr (.inr (some (0, 0)))), (1, .inl l1), (2, .inl l2)]) [] σ (JB_serveLine_r r0) := by
  unfold JB_serveLine_b10 at h
  refine q_ex_br 2 (c := l2 ≤ 0) (pc1 := 64) (pc2 := 14) (L' := (q_L [(0, .inr (.inr (some (0, 0)))), (1, .inl l1), (2, .inl l2)])) (st' := []) (σ' := σ) (fun _ => rfl) (fun hc => ?_) (fun hc => ?_)
  · rw [if_pos hc] at h
    cases h
    exact ⟨1, rfl⟩
  · rw [if_neg hc] at h
    refine q_by h (fun hz h => ?_)
    refine q_ex_gb 7 (pc' := 27) (L' := (q_L [(0, .inr (.inr (some (0, 0)))), (1, .inl l1), (2, .inl l2)])) (st' := [.inl (σ.2.1 22 0 l1.toNatClampNeg), .inr (.inr (some (1, 0)))]) (σ' := σ) (fun _ => rfl) hz ?_
    refine q_by h (fun hz h => ?_)
    refine q_by h (fun hy h => ?_)
    refine q_ex_g2 1 (pc' := 28) (L' := (q_L [(0, .inr (.inr (some (0, 0)))), (1, .inl l1), (2, .inl l2)])) (st' := [.inr (.inr (some (16, σ.2.2.2 1 0 (σ.2.1 22 0 l1.toNatClampNeg).toNatClampNeg)))]) (σ' := σ) (fun _ => rfl) hz hy ?_
    obtain ⟨q1, hq1, h⟩ := Option.bind_eq_some_iff.mp h
    refine q_ex_ca 6 (k1 := 27) (vs := [.inr (.inr (some (0, 0))), .inr (.inr (some (16, σ.2.2.2 1 0 (σ.2.1 22 0 l1.toNatClampNeg).toNatClampNeg))), .inl (σ.1 16 6 (σ.2.2.2 1 0 (σ.2.1 22 0 l1.toNatClampNeg).toNatClampNeg))]) (pc' := 38) (L' := (q_s1 (q_L [(0, .inr (.inr (some (0, 0)))), (1, .inl l1), (2, .inl l2)]) 3 (.inr (.inr (some (16, σ.2.2.2 1 0 (σ.2.1 22 0 l1.toNatClampNeg).toNatClampNeg)))))) (rest := []) (σ' := σ) (fun _ => rfl) (q_ex_dd (JB_searchFor_e hq1) (Nat.le_of_ble_eq_true rfl)) rfl ?_
    refine q_ex_br 1 (c := q1.1 = 0) (pc1 := 55) (pc2 := 41) (L' := (q_s1 (q_L [(0, .inr (.inr (some (0, 0)))), (1, .inl l1), (2, .inl l2)]) 3 (.inr (.inr (some (16, σ.2.2.2 1 0 (σ.2.1 22 0 l1.toNatClampNeg).toNatClampNeg)))))) (st' := []) (σ' := q1.2) (fun _ => rfl) (fun hc => ?_) (fun hc => ?_)
    · rw [if_pos hc] at h
      refine q_ex_go 1 (pc' := 58) (L' := (q_s1 (q_s1 (q_L [(0, .inr (.inr (some (0, 0)))), (1, .inl l1), (2, .inl l2)]) 3 (.inr (.inr (some (16, σ.2.2.2 1 0 (σ.2.1 22 0 l1.toNatClampNeg).toNatClampNeg))))) 1 (.inl (l1 + 1)))) (st' := []) (σ' := q1.2) (fun _ => rfl) ?_
      exact q_ex_ll (JB_serveLine_b58_e hk10 h) ⟨rfl, rfl, rfl, trivial⟩
    · rw [if_neg hc] at h
      obtain ⟨q2, hq2, h⟩ := Option.bind_eq_some_iff.mp h
      refine q_ex_ca 3 (k1 := 16) (vs := [.inr (.inr (some (0, 0))), .inr (.inr (some (16, σ.2.2.2 1 0 (σ.2.1 22 0 l1.toNatClampNeg).toNatClampNeg)))]) (pc' := 46) (L' := (q_s1 (q_L [(0, .inr (.inr (some (0, 0)))), (1, .inl l1), (2, .inl l2)]) 3 (.inr (.inr (some (16, σ.2.2.2 1 0 (σ.2.1 22 0 l1.toNatClampNeg).toNatClampNeg)))))) (rest := []) (σ' := q1.2) (fun _ => rfl) (q_ex_dd (JB_grant_e hq2) (Nat.le_of_ble_eq_true rfl)) rfl ?_
      obtain ⟨q3, hq3, h⟩ := Option.bind_eq_some_iff.mp h
      refine q_ex_ca 4 (k1 := 7) (vs := [.inr (.inr (some (0, 0))), .inr (.inr (some (16, σ.2.2.2 1 0 (σ.2.1 22 0 l1.toNatClampNeg).toNatClampNeg))), .inl 2]) (pc' := 52) (L' := (q_s1 (q_L [(0, .inr (.inr (some (0, 0)))), (1, .inl l1), (2, .inl l2)]) 3 (.inr (.inr (some (16, σ.2.2.2 1 0 (σ.2.1 22 0 l1.toNatClampNeg).toNatClampNeg)))))) (rest := []) (σ' := q2) (fun _ => rfl) (q_ex_dd (JB_endWait_e hq3) (Nat.le_of_ble_eq_true rfl)) rfl ?_
      refine q_ex_go 1 (pc' := 58) (L' := (q_s1 (q_L [(0, .inr (.inr (some (0, 0)))), (1, .inl l1), (2, .inl l2)]) 3 (.inr (.inr (some (16, σ.2.2.2 1 0 (σ.2.1 22 0 l1.toNatClampNeg).toNatClampNeg)))))) (st' := []) (σ' := q3) (fun _ => rfl) ?_
      exact q_ex_ll (JB_serveLine_b58_e hk10 h) ⟨rfl, rfl, rfl, trivial⟩
theorem JB_serveLine_L10_e {n : Nat} {r0 : J} (f : Nat) : ∀ {l1 : Int32} {l2 : Int32} {σ : J}, JB_serveLine_L10 n f l1 l2 σ = some r0 → q_ex q_pr n 8 29 10 (q_L [(0, .inr (.inr (some (0, 0)))), (1, .inl l1), (2, .inl l2)]) [] σ (JB_serveLine_r r0) := by
  induction f with
  | zero => intro l1 l2 σ h; cases h
  | succ f ih =>
    intro l1 l2 σ h
    exact JB_serveLine_b10_e (f := f)  (fun h => ih h) h
theorem JB_serveLine_b0_e {n : Nat} {r0 : J} {f : Nat} {σ : J} (h : JB_serveLine_b0 n f σ = some r0) : q_ex q_pr n 8 29 0 (q_L [(0, .inr (.inr (some (0, 0))))]) [] σ (JB_serveLine_r r0) := by
  unfold JB_serveLine_b0 at h
  refine q_ex_go 6 (pc' := 10) (L' := (q_s1 (q_s1 (q_L [(0, .inr (.inr (some (0, 0))))]) 1 (.inl 0)) 2 (.inl (σ.1 21 1 0)))) (st' := []) (σ' := σ) (fun _ => rfl) ?_
  exact q_ex_ll (JB_serveLine_L10_e f h) ⟨rfl, rfl, rfl, trivial⟩
theorem JB_serveLine_e {n : Nat} {r0 : J} {f : Nat} {σ : J} (h : JB_serveLine n f σ = some r0) : q_ex q_pr n 8 29 0 (q_args 0 [.inr (.inr (some (0, 0)))]) [] σ (JB_serveLine_r r0) := q_ex_ll (JB_serveLine_b0_e h) ⟨rfl, trivial⟩
def JB_abandon_r : (Int32 ⊕ Nat) × J → Res := fun q => ((match q.1 with | .inl r => .inl (some (.inl r)) | .inr e => .inr e), q.2)
-- 0: JB_abandon
def JB_abandon_b44 (n : Nat) (f : Nat) (l3 : Int32) (σ : J) : Option ((Int32 ⊕ Nat) × J) := some (.inl l3, σ)
def JB_abandon_b0 (n : Nat) (f : Nat) (l1 : Int32) (σ : J) : Option ((Int32 ⊕ Nat) × J) := (JB_readySession n l1 σ).bind fun q1 => (match q1.1 with | .inl r1 => if Nat.blt r1 (0 + n) = true then if (q1.2.1 16 4 r1) = 0 then some (.inl (-1), q1.2) else (Board_countInDeal n f l1 (q1.2.1 16 4 r1) q1.2).bind fun q2 => (JB_abandonDownTo n f r1 (q2.2.1 16 4 r1) q2.2).bind fun q3 => if q3.1 = 0 then JB_abandon_b44 n f q2.1 q3.2 else (JB_serveLine n f q3.2).bind fun q4 => JB_abandon_b44 n f q2.1 q4 else none | .inr k0 => some (.inr k0, q1.2))
def JB_abandon (n : Nat) (f : Nat) (x1 : Int32) (σ : J) : Option ((Int32 ⊕ Nat) × J) := JB_abandon_b0 n f x1 σ
theorem JB_abandon_b44_e {n : Nat} {r0 : (Int32 ⊕ Nat) × J} {f : Nat} {l3 : Int32} {σ : J} (h : JB_abandon_b44 n f l3 σ = some r0) : q_ex q_pr n 9 0 44 (q_L [(3, .inl l3)]) [] σ (JB_abandon_r r0) := by
  unfold JB_abandon_b44 at h
  refine q_ex_go 1 (pc' := 45) (L' := (q_L [(3, .inl l3)])) (st' := [.inl l3]) (σ' := σ) (fun _ => rfl) ?_
  cases h
  exact ⟨1, rfl⟩
theorem JB_abandon_b0_e {n : Nat} {r0 : (Int32 ⊕ Nat) × J} {f : Nat} {l1 : Int32} {σ : J} (h : JB_abandon_b0 n f l1 σ = some r0) : q_ex q_pr n 9 0 0 (q_L [(0, .inr (.inr (some (0, 0)))), (1, .inl l1)]) [] σ (JB_abandon_r r0) := by
  unfold JB_abandon_b0 at h
  obtain ⟨q1, hq1, h⟩ := Option.bind_eq_some_iff.mp h
  obtain ⟨q1, σ1⟩ := q1
  cases q1 with
  | inr k0 =>
    cases h
    exact q_ex_cx 3 (k1 := 24) (vs := [.inr (.inr (some (0, 0))), .inl l1]) (pc' := 5) (L' := (q_L [(0, .inr (.inr (some (0, 0)))), (1, .inl l1)])) (rest := []) (σ' := σ) (fun _ => rfl) (q_ex_dd (JB_readySession_e hq1) (Nat.le_of_ble_eq_true rfl))
  | inl r1 =>
    refine q_by h (fun hy h => ?_)
    refine q_ex_ca 3 (k1 := 24) (vs := [.inr (.inr (some (0, 0))), .inl l1]) (pc' := 5) (L' := (q_L [(0, .inr (.inr (some (0, 0)))), (1, .inl l1)])) (rest := []) (σ' := σ) (fun _ => rfl) (q_ex_dd (JB_readySession_e hq1) (Nat.le_of_ble_eq_true rfl)) hy ?_
    refine q_ex_br 4 (c := (σ1.1 16 4 r1) = 0) (pc1 := 13) (pc2 := 15) (L' := (q_s1 (q_L [(0, .inr (.inr (some (0, 0)))), (1, .inl l1)]) 2 (.inr (.inr (some (16, r1)))))) (st' := []) (σ' := σ1) (fun _ => rfl) (fun hc => ?_) (fun hc => ?_)
    · rw [if_pos hc] at h
      refine q_ex_go 1 (pc' := 14) (L' := (q_s1 (q_L [(0, .inr (.inr (some (0, 0)))), (1, .inl l1)]) 2 (.inr (.inr (some (16, r1)))))) (st' := [.inl (-1)]) (σ' := σ1) (fun _ => rfl) ?_
      cases h
      exact ⟨1, rfl⟩
    · rw [if_neg hc] at h
      obtain ⟨q2, hq2, h⟩ := Option.bind_eq_some_iff.mp h
      refine q_ex_ca 6 (k1 := 38) (vs := [.inr (.inr (some (2, 0))), .inl l1, .inl (σ1.1 16 4 r1)]) (pc' := 27) (L' := (q_s1 (q_L [(0, .inr (.inr (some (0, 0)))), (1, .inl l1)]) 2 (.inr (.inr (some (16, r1)))))) (rest := []) (σ' := σ1) (fun _ => rfl) (q_ex_dd (Board_countInDeal_e hq2) (Nat.le_of_ble_eq_true rfl)) rfl ?_
      obtain ⟨q3, hq3, h⟩ := Option.bind_eq_some_iff.mp h
      refine q_ex_ca 6 (k1 := 1) (vs := [.inr (.inr (some (0, 0))), .inr (.inr (some (16, r1))), .inl (q2.2.1 16 4 r1)]) (pc' := 37) (L' := (q_s1 (q_s1 (q_L [(0, .inr (.inr (some (0, 0)))), (1, .inl l1)]) 2 (.inr (.inr (some (16, r1))))) 3 (.inl q2.1))) (rest := []) (σ' := q2.2) (fun _ => rfl) (q_ex_dd (JB_abandonDownTo_e hq3) (Nat.le_of_ble_eq_true rfl)) rfl ?_
      refine q_ex_br 1 (c := q3.1 = 0) (pc1 := 44) (pc2 := 40) (L' := (q_s1 (q_s1 (q_L [(0, .inr (.inr (some (0, 0)))), (1, .inl l1)]) 2 (.inr (.inr (some (16, r1))))) 3 (.inl q2.1))) (st' := []) (σ' := q3.2) (fun _ => rfl) (fun hc => ?_) (fun hc => ?_)
      · rw [if_pos hc] at h
        exact q_ex_ll (JB_abandon_b44_e h) ⟨rfl, trivial⟩
      · rw [if_neg hc] at h
        obtain ⟨q4, hq4, h⟩ := Option.bind_eq_some_iff.mp h
        refine q_ex_ca 2 (k1 := 29) (vs := [.inr (.inr (some (0, 0)))]) (pc' := 44) (L' := (q_s1 (q_s1 (q_L [(0, .inr (.inr (some (0, 0)))), (1, .inl l1)]) 2 (.inr (.inr (some (16, r1))))) 3 (.inl q2.1))) (rest := []) (σ' := q3.2) (fun _ => rfl) (q_ex_dd (JB_serveLine_e hq4) (Nat.le_of_ble_eq_true rfl)) rfl ?_
        exact q_ex_ll (JB_abandon_b44_e h) ⟨rfl, trivial⟩
theorem JB_abandon_e {n : Nat} {r0 : (Int32 ⊕ Nat) × J} {f : Nat} {x1 : Int32} {σ : J} (h : JB_abandon n f x1 σ = some r0) : q_ex q_pr n 9 0 0 (q_args 0 [.inr (.inr (some (0, 0))), .inl x1]) [] σ (JB_abandon_r r0) := q_ex_ll (JB_abandon_b0_e h) ⟨rfl, rfl, trivial⟩
def JB_about_r : (Int64) × J → Res := fun q => (.inl (some (.inr (.inl q.1))), q.2)
-- 2: JB_about
def JB_about_b106 (n : Nat) (f : Nat) (s0 : Int64) (σ : J) : Option ((Int64) × J) := some (s0, σ)
def JB_about_b0 (n : Nat) (f : Nat) (l1 : Int32) (l2 : Int32) (σ : J) : Option ((Int64) × J) := (Board_lookUp n f l1 σ).bind fun q1 => (match q1.1 with | none => some ((-1), q1.2) | some t1 => if Nat.blt t1 20 = true then if l2 = Int32.ofNat 0 then some ((q1.2.1 5 0 t1).toInt64, q1.2) else if l2 = Int32.ofNat 1 then some ((q1.2.1 4 2 t1).toInt64, q1.2) else if l2 = Int32.ofNat 2 then some ((q1.2.1 4 3 t1).toInt64, q1.2) else if l2 = Int32.ofNat 3 then some ((q1.2.1 4 5 t1).toInt64, q1.2) else if l2 < 8 then (Fields_kindAt n t1 (l2 - 4) q1.2).bind fun q2 => JB_about_b106 n f q2.1.toInt64 q2.2 else (Fields_valueAt n t1 (l2 - 8) q1.2).bind fun q3 => JB_about_b106 n f q3.1 q3.2 else none)
def JB_about (n : Nat) (f : Nat) (x1 : Int32) (x2 : Int32) (σ : J) : Option ((Int64) × J) := JB_about_b0 n f x1 x2 σ
theorem JB_about_b106_e {n : Nat} {r0 : (Int64) × J} {f : Nat} {s0 : Int64} {σ : J} (h : JB_about_b106 n f s0 σ = some r0) : q_ex q_pr n 1 2 106 (q_L []) [.inr (.inl s0)] σ (JB_about_r r0) := by
  unfold JB_about_b106 at h
  cases h
  exact ⟨1, rfl⟩
theorem JB_about_b0_e {n : Nat} {r0 : (Int64) × J} {f : Nat} {l1 : Int32} {l2 : Int32} {σ : J} (h : JB_about_b0 n f l1 l2 σ = some r0) : q_ex q_pr n 1 2 0 (q_L [(0, .inr (.inr (some (0, 0)))), (1, .inl l1), (2, .inl l2)]) [] σ (JB_about_r r0) := by
  unfold JB_about_b0 at h
  obtain ⟨q1, hq1, h⟩ := Option.bind_eq_some_iff.mp h
  obtain ⟨q1, σ1⟩ := q1
  cases q1 with
  | none =>
    refine q_ex_ca 4 (k1 := 41) (vs := [.inr (.inr (some (2, 0))), .inl l1]) (pc' := 8) (L' := (q_L [(0, .inr (.inr (some (0, 0)))), (1, .inl l1), (2, .inl l2)])) (rest := []) (σ' := σ) (fun _ => rfl) (q_ex_dd (Board_lookUp_e hq1) (Nat.le_of_ble_eq_true rfl)) rfl ?_
    refine q_ex_go 4 (pc' := 16) (L' := (q_s1 (q_L [(0, .inr (.inr (some (0, 0)))), (1, .inl l1), (2, .inl l2)]) 3 (.inr (.inr none)))) (st' := [.inr (.inl (-1))]) (σ' := σ1) (fun _ => rfl) ?_
    cases h
    exact ⟨1, rfl⟩
  | some t1 =>
    refine q_by h (fun hy h => ?_)
    refine q_ex_ca 4 (k1 := 41) (vs := [.inr (.inr (some (2, 0))), .inl l1]) (pc' := 8) (L' := (q_L [(0, .inr (.inr (some (0, 0)))), (1, .inl l1), (2, .inl l2)])) (rest := []) (σ' := σ) (fun _ => rfl) (q_ex_dd (Board_lookUp_e hq1) (Nat.le_of_ble_eq_true rfl)) hy ?_
    refine q_ex_sw 5 (x := l2) (lo := 0) (ts := [48, 57, 63, 69]) (t := 75) (L' := (q_s1 (q_L [(0, .inr (.inr (some (0, 0)))), (1, .inl l1), (2, .inl l2)]) 3 (.inr (.inr (some (4, t1)))))) (st' := []) (σ' := σ1) (fun _ => rfl) ?_
    refine q_sw_c (fun (hc : l2 = Int32.ofNat 0) => ?_) (fun (hc : ¬ l2 = Int32.ofNat 0) => ?_)
    · rw [if_pos hc] at h
      refine q_ex_go 4 (pc' := 56) (L' := (q_s1 (q_L [(0, .inr (.inr (some (0, 0)))), (1, .inl l1), (2, .inl l2)]) 3 (.inr (.inr (some (4, t1)))))) (st' := [.inr (.inl ((σ1.1 5 0 t1).toInt64))]) (σ' := σ1) (fun _ => rfl) ?_
      cases h
      exact ⟨1, rfl⟩
    rw [if_neg hc] at h
    refine q_sw_c (fun (hc : l2 = Int32.ofNat 1) => ?_) (fun (hc : ¬ l2 = Int32.ofNat 1) => ?_)
    · rw [if_pos hc] at h
      refine q_ex_go 3 (pc' := 62) (L' := (q_s1 (q_L [(0, .inr (.inr (some (0, 0)))), (1, .inl l1), (2, .inl l2)]) 3 (.inr (.inr (some (4, t1)))))) (st' := [.inr (.inl ((σ1.1 4 2 t1).toInt64))]) (σ' := σ1) (fun _ => rfl) ?_
      cases h
      exact ⟨1, rfl⟩
    rw [if_neg hc] at h
    refine q_sw_c (fun (hc : l2 = Int32.ofNat 2) => ?_) (fun (hc : ¬ l2 = Int32.ofNat 2) => ?_)
    · rw [if_pos hc] at h
      refine q_ex_go 3 (pc' := 68) (L' := (q_s1 (q_L [(0, .inr (.inr (some (0, 0)))), (1, .inl l1), (2, .inl l2)]) 3 (.inr (.inr (some (4, t1)))))) (st' := [.inr (.inl ((σ1.1 4 3 t1).toInt64))]) (σ' := σ1) (fun _ => rfl) ?_
      cases h
      exact ⟨1, rfl⟩
    rw [if_neg hc] at h
    refine q_sw_c (fun (hc : l2 = Int32.ofNat 3) => ?_) (fun (hc : ¬ l2 = Int32.ofNat 3) => ?_)
    · rw [if_pos hc] at h
      refine q_ex_go 3 (pc' := 74) (L' := (q_s1 (q_L [(0, .inr (.inr (some (0, 0)))), (1, .inl l1), (2, .inl l2)]) 3 (.inr (.inr (some (4, t1)))))) (st' := [.inr (.inl ((σ1.1 4 5 t1).toInt64))]) (σ' := σ1) (fun _ => rfl) ?_
      cases h
      exact ⟨1, rfl⟩
    rw [if_neg hc] at h
    refine q_sw_d ?_
    refine q_ex_br 3 (c := l2 < 8) (pc1 := 95) (pc2 := 81) (L' := (q_s1 (q_L [(0, .inr (.inr (some (0, 0)))), (1, .inl l1), (2, .inl l2)]) 3 (.inr (.inr (some (4, t1)))))) (st' := []) (σ' := σ1) (fun _ => rfl) (fun hc => ?_) (fun hc => ?_)
    · rw [if_pos hc] at h
      obtain ⟨q2, hq2, h⟩ := Option.bind_eq_some_iff.mp h
      refine q_ex_ca 6 (k1 := 46) (vs := [.inr (.inr (some (5, t1))), .inl (l2 - 4)]) (pc' := 105) (L' := (q_s1 (q_L [(0, .inr (.inr (some (0, 0)))), (1, .inl l1), (2, .inl l2)]) 3 (.inr (.inr (some (4, t1)))))) (rest := []) (σ' := σ1) (fun _ => rfl) (q_ex_dd (Fields_kindAt_e hq2) (Nat.le_of_ble_eq_true rfl)) rfl ?_
      refine q_ex_go 1 (pc' := 106) (L' := (q_s1 (q_L [(0, .inr (.inr (some (0, 0)))), (1, .inl l1), (2, .inl l2)]) 3 (.inr (.inr (some (4, t1)))))) (st' := [.inr (.inl q2.1.toInt64)]) (σ' := q2.2) (fun _ => rfl) ?_
      exact q_ex_ll (JB_about_b106_e h) trivial
    · rw [if_neg hc] at h
      obtain ⟨q3, hq3, h⟩ := Option.bind_eq_some_iff.mp h
      refine q_ex_ca 6 (k1 := 47) (vs := [.inr (.inr (some (5, t1))), .inl (l2 - 8)]) (pc' := 92) (L' := (q_s1 (q_L [(0, .inr (.inr (some (0, 0)))), (1, .inl l1), (2, .inl l2)]) 3 (.inr (.inr (some (4, t1)))))) (rest := []) (σ' := σ1) (fun _ => rfl) (q_ex_dd (Fields_valueAt_e hq3) (Nat.le_of_ble_eq_true rfl)) rfl ?_
      refine q_ex_go 1 (pc' := 106) (L' := (q_s1 (q_L [(0, .inr (.inr (some (0, 0)))), (1, .inl l1), (2, .inl l2)]) 3 (.inr (.inr (some (4, t1)))))) (st' := [.inr (.inl q3.1)]) (σ' := q3.2) (fun _ => rfl) ?_
      exact q_ex_ll (JB_about_b106_e h) trivial
theorem JB_about_e {n : Nat} {r0 : (Int64) × J} {f : Nat} {x1 : Int32} {x2 : Int32} {σ : J} (h : JB_about n f x1 x2 σ = some r0) : q_ex q_pr n 1 2 0 (q_args 0 [.inr (.inr (some (0, 0))), .inl x1, .inl x2]) [] σ (JB_about_r r0) := q_ex_ll (JB_about_b0_e h) ⟨rfl, rfl, rfl, trivial⟩
def JB_collect_r : (Int32 ⊕ Nat) × J → Res := fun q => ((match q.1 with | .inl r => .inl (some (.inl r)) | .inr e => .inr e), q.2)
-- 3: JB_collect
def JB_collect_b12 (n : Nat) (σ : J) : Option ((Int32 ⊕ Nat) × J) := some (.inr 1, σ)
def JB_collect_b0 (n : Nat) (l1 : Int32) (σ : J) : Option ((Int32 ⊕ Nat) × J) := if l1 < 0 then JB_collect_b12 n σ else if l1 < (σ.1 0 4 0) then if q_in l1 6 = true then if Nat.blt (σ.2.2.2 20 0 l1.toNatClampNeg) 6 = true then (Order_takeOldest n (σ.2.2.2 20 0 l1.toNatClampNeg) σ).bind fun q1 => some (.inl q1.1, q1.2) else none else none else JB_collect_b12 n σ
def JB_collect (n : Nat) (x1 : Int32) (σ : J) : Option ((Int32 ⊕ Nat) × J) := JB_collect_b0 n x1 σ
theorem JB_collect_b12_e {n : Nat} {r0 : (Int32 ⊕ Nat) × J} {σ : J} (h : JB_collect_b12 n σ = some r0) : q_ex q_pr n 1 3 12 (q_L []) [] σ (JB_collect_r r0) := by
  unfold JB_collect_b12 at h
  cases h
  exact ⟨1, rfl⟩
theorem JB_collect_b0_e {n : Nat} {r0 : (Int32 ⊕ Nat) × J} {l1 : Int32} {σ : J} (h : JB_collect_b0 n l1 σ = some r0) : q_ex q_pr n 1 3 0 (q_L [(0, .inr (.inr (some (0, 0)))), (1, .inl l1)]) [] σ (JB_collect_r r0) := by
  unfold JB_collect_b0 at h
  refine q_ex_br 2 (c := l1 < 0) (pc1 := 12) (pc2 := 4) (L' := (q_L [(0, .inr (.inr (some (0, 0)))), (1, .inl l1)])) (st' := []) (σ' := σ) (fun _ => rfl) (fun hc => ?_) (fun hc => ?_)
  · rw [if_pos hc] at h
    exact q_ex_ll (JB_collect_b12_e h) trivial
  · rw [if_neg hc] at h
    refine q_ex_br 4 (c := l1 < (σ.1 0 4 0)) (pc1 := 20) (pc2 := 12) (L' := (q_L [(0, .inr (.inr (some (0, 0)))), (1, .inl l1)])) (st' := []) (σ' := σ) (fun _ => rfl) (fun hc => ?_) (fun hc => ?_)
    · rw [if_pos hc] at h
      refine q_by h (fun hz h => ?_)
      refine q_by h (fun hy h => ?_)
      refine q_ex_g2 4 (pc' := 26) (L' := (q_L [(0, .inr (.inr (some (0, 0)))), (1, .inl l1)])) (st' := [.inr (.inr (some (18, σ.2.2.2 20 0 l1.toNatClampNeg)))]) (σ' := σ) (fun _ => rfl) hz hy ?_
      obtain ⟨q1, hq1, h⟩ := Option.bind_eq_some_iff.mp h
      refine q_ex_ca 1 (k1 := 60) (vs := [.inr (.inr (some (18, σ.2.2.2 20 0 l1.toNatClampNeg)))]) (pc' := 29) (L' := (q_L [(0, .inr (.inr (some (0, 0)))), (1, .inl l1)])) (rest := []) (σ' := σ) (fun _ => rfl) (q_ex_dd (Order_takeOldest_e hq1) (Nat.le_of_ble_eq_true rfl)) rfl ?_
      cases h
      exact ⟨1, rfl⟩
    · rw [if_neg hc] at h
      exact q_ex_ll (JB_collect_b12_e h) trivial
theorem JB_collect_e {n : Nat} {r0 : (Int32 ⊕ Nat) × J} {x1 : Int32} {σ : J} (h : JB_collect n x1 σ = some r0) : q_ex q_pr n 1 3 0 (q_args 0 [.inr (.inr (some (0, 0))), .inl x1]) [] σ (JB_collect_r r0) := q_ex_ll (JB_collect_b0_e h) ⟨rfl, rfl, trivial⟩
def JB_combine_r : (Int64) × J → Res := fun q => (.inl (some (.inr (.inl q.1))), q.2)
-- 4: JB_combine
def JB_combine_b27 (n : Nat) (s0 : Int64) (σ : J) : Option ((Int64) × J) := some (s0, σ)
def JB_combine_b0 (n : Nat) (l0 : Int32) (l1 : Int64) (l3 : Int64) (σ : J) : Option ((Int64) × J) := if l0 = 1 then some (l1 + l3, σ) else if l0 = 2 then JB_combine_b27 n (if l3 < l1 then l3 else l1) σ else JB_combine_b27 n (if l3 < l1 then l1 else l3) σ
def JB_combine (n : Nat) (x0 : Int32) (x1 : Int64) (x3 : Int64) (σ : J) : Option ((Int64) × J) := JB_combine_b0 n x0 x1 x3 σ
theorem JB_combine_b27_e {n : Nat} {r0 : (Int64) × J} {s0 : Int64} {σ : J} (h : JB_combine_b27 n s0 σ = some r0) : q_ex q_pr n 0 4 27 (q_L []) [.inr (.inl s0)] σ (JB_combine_r r0) := by
  unfold JB_combine_b27 at h
  cases h
  exact ⟨1, rfl⟩
theorem JB_combine_b0_e {n : Nat} {r0 : (Int64) × J} {l0 : Int32} {l1 : Int64} {l3 : Int64} {σ : J} (h : JB_combine_b0 n l0 l1 l3 σ = some r0) : q_ex q_pr n 0 4 0 (q_L [(0, .inl l0), (1, .inr (.inl l1)), (3, .inr (.inl l3))]) [] σ (JB_combine_r r0) := by
  unfold JB_combine_b0 at h
  refine q_ex_br 3 (c := l0 = 1) (pc1 := 5) (pc2 := 9) (L' := (q_L [(0, .inl l0), (1, .inr (.inl l1)), (3, .inr (.inl l3))])) (st' := []) (σ' := σ) (fun _ => rfl) (fun hc => ?_) (fun hc => ?_)
  · rw [if_pos hc] at h
    refine q_ex_go 3 (pc' := 8) (L' := (q_L [(0, .inl l0), (1, .inr (.inl l1)), (3, .inr (.inl l3))])) (st' := [.inr (.inl (l1 + l3))]) (σ' := σ) (fun _ => rfl) ?_
    cases h
    exact ⟨1, rfl⟩
  · rw [if_neg hc] at h
    refine q_ex_br 3 (c := l0 = 2) (pc1 := 14) (pc2 := 22) (L' := (q_L [(0, .inl l0), (1, .inr (.inl l1)), (3, .inr (.inl l3))])) (st' := []) (σ' := σ) (fun _ => rfl) (fun hc => ?_) (fun hc => ?_)
    · rw [if_pos hc] at h
      refine q_ex_go 4 (pc' := 27) (L' := (q_L [(0, .inl l0), (1, .inr (.inl l1)), (3, .inr (.inl l3))])) (st' := [.inr (.inl (if l3 < l1 then l3 else l1))]) (σ' := σ) (fun _ => rfl) ?_
      exact q_ex_ll (JB_combine_b27_e h) trivial
    · rw [if_neg hc] at h
      refine q_ex_go 3 (pc' := 27) (L' := (q_L [(0, .inl l0), (1, .inr (.inl l1)), (3, .inr (.inl l3))])) (st' := [.inr (.inl (if l3 < l1 then l1 else l3))]) (σ' := σ) (fun _ => rfl) ?_
      exact q_ex_ll (JB_combine_b27_e h) trivial
theorem JB_combine_e {n : Nat} {r0 : (Int64) × J} {x0 : Int32} {x1 : Int64} {x3 : Int64} {σ : J} (h : JB_combine n x0 x1 x3 σ = some r0) : q_ex q_pr n 0 4 0 (q_args 0 [.inl x0, .inr (.inl x1), .inr (.inl x3)]) [] σ (JB_combine_r r0) := q_ex_ll (JB_combine_b0_e h) ⟨rfl, rfl, rfl, trivial⟩
def JB_fitsAlone_r : (Int32) × J → Res := fun q => (.inl (some (.inl q.1)), q.2)
-- 11: JB_fitsAlone
def JB_fitsAlone_b0 (n : Nat) (f : Nat) (l1 : Nat) (l2 : Nat) (σ : J) : Option ((Int32) × J) := (Finding_clear n f 0 σ).bind fun q1 => (Pattern_fits n f l1 l2 0 q1).bind fun q2 => if q2.1 &&& 1 = q2.1 then some (q2.1, q2.2) else none
def JB_fitsAlone (n : Nat) (f : Nat) (x1 : Nat) (x2 : Nat) (σ : J) : Option ((Int32) × J) := JB_fitsAlone_b0 n f x1 x2 σ
theorem JB_fitsAlone_b0_e {n : Nat} {r0 : (Int32) × J} {f : Nat} {l1 : Nat} {l2 : Nat} {σ : J} (h : JB_fitsAlone_b0 n f l1 l2 σ = some r0) : q_ex q_pr n 3 11 0 (q_L [(0, .inr (.inr (some (0, 0)))), (1, .inr (.inr (some (8, l1)))), (2, .inr (.inr (some (4, l2))))]) [] σ (JB_fitsAlone_r r0) := by
  unfold JB_fitsAlone_b0 at h
  obtain ⟨q1, hq1, h⟩ := Option.bind_eq_some_iff.mp h
  refine q_ex_ca 3 (k1 := 49) (vs := [.inr (.inr (some (12, 0)))]) (pc' := 7) (L' := (q_L [(0, .inr (.inr (some (0, 0)))), (1, .inr (.inr (some (8, l1)))), (2, .inr (.inr (some (4, l2))))])) (rest := []) (σ' := σ) (fun _ => rfl) (q_ex_dd (Finding_clear_e hq1) (Nat.le_of_ble_eq_true rfl)) rfl ?_
  obtain ⟨q2, hq2, h⟩ := Option.bind_eq_some_iff.mp h
  refine q_ex_ca 6 (k1 := 64) (vs := [.inr (.inr (some (8, l1))), .inr (.inr (some (5, l2))), .inr (.inr (some (12, 0)))]) (pc' := 19) (L' := (q_L [(0, .inr (.inr (some (0, 0)))), (1, .inr (.inr (some (8, l1)))), (2, .inr (.inr (some (4, l2))))])) (rest := []) (σ' := q1) (fun _ => rfl) (q_ex_dd (Pattern_fits_e hq2) (Nat.le_of_ble_eq_true rfl)) rfl ?_
  refine q_by h (fun hz h => ?_)
  cases h
  exact ⟨1, if_pos (e := (none : Option Res)) hz⟩
theorem JB_fitsAlone_e {n : Nat} {r0 : (Int32) × J} {f : Nat} {x1 : Nat} {x2 : Nat} {σ : J} (h : JB_fitsAlone n f x1 x2 σ = some r0) : q_ex q_pr n 3 11 0 (q_args 0 [.inr (.inr (some (0, 0))), .inr (.inr (some (8, x1))), .inr (.inr (some (4, x2)))]) [] σ (JB_fitsAlone_r r0) := q_ex_ll (JB_fitsAlone_b0_e h) ⟨rfl, rfl, rfl, trivial⟩
def JB_report_r : J → Res := fun σ => (.inl none, σ)
-- 26: JB_report
def JB_report_b40 (n : Nat) (k2 : Nat → Int32 → J → Option (J)) (f : Nat) (l1 : Nat) (l2 : Int32) (σ : J) : Option (J) := k2 l1 (l2 + 1) σ
def JB_report_b2 (n : Nat) (k2 : Nat → Int32 → J → Option (J)) (f : Nat) (l1 : Nat) (l2 : Int32) (σ : J) : Option (J) := if (σ.1 0 4 0) ≤ l2 then some σ else if q_in l2 6 = true then if Nat.blt (σ.2.2.2 20 0 l2.toNatClampNeg) 6 = true then (JB_fitsAlone n f (σ.2.2.2 20 0 l2.toNatClampNeg) l1 σ).bind fun q1 => if q1.1 = 0 then JB_report_b40 n k2 f l1 l2 q1.2 else if q_in l2 6 = true then if Nat.blt (q1.2.2.2.2 20 0 l2.toNatClampNeg) 6 = true then (Order_addReport n (q1.2.2.2.2 20 0 l2.toNatClampNeg) (q1.2.1 4 1 l1) q1.2).bind fun q2 => JB_report_b40 n k2 f l1 l2 q2 else none else none else none else none
def JB_report_L2 (n : Nat) : Nat → Nat → Int32 → J → Option (J)
  | 0 => fun _ _ _ => none
  | f + 1 => fun l1 l2 σ => JB_report_b2 n (JB_report_L2 n f) f l1 l2 σ
def JB_report_b0 (n : Nat) (f : Nat) (l1 : Nat) (σ : J) : Option (J) := JB_report_L2 n f l1 0 σ
def JB_report (n : Nat) (f : Nat) (x1 : Nat) (σ : J) : Option (J) := JB_report_b0 n f x1 σ
theorem JB_report_b40_e {n : Nat} {r0 : J} {k2 : Nat → Int32 → J → Option (J)} {f : Nat} {l1 : Nat} {l2 : Int32} {σ : J} (hk2 : ∀ {l1 : Nat} {l2 : Int32} {σ : J}, k2 l1 l2 σ = some r0 → q_ex q_pr n 4 26 2 (q_L [(0, .inr (.inr (some (0, 0)))), (1, .inr (.inr (some (4, l1)))), (2, .inl l2)]) [] σ (JB_report_r r0)) (h : JB_report_b40 n k2 f l1 l2 σ = some r0) : q_ex q_pr n 4 26 40 (q_L [(0, .inr (.inr (some (0, 0)))), (1, .inr (.inr (some (4, l1)))), (2, .inl l2)]) [] σ (JB_report_r r0) := by
  unfold JB_report_b40 at h
  refine q_ex_go 2 (pc' := 2) (L' := (q_s1 (q_L [(0, .inr (.inr (some (0, 0)))), (1, .inr (.inr (some (4, l1)))), (2, .inl l2)]) 2 (.inl (l2 + 1)))) (st' := []) (σ' := σ) (fun _ => rfl) ?_
  exact q_ex_ll (hk2 h) ⟨rfl, rfl, rfl, trivial⟩
theorem JB_report_b2_e {n : Nat} {r0 : J} {k2 : Nat → Int32 → J → Option (J)} {f : Nat} {l1 : Nat} {l2 : Int32} {σ : J} (hk2 : ∀ {l1 : Nat} {l2 : Int32} {σ : J}, k2 l1 l2 σ = some r0 → q_ex q_pr n 4 26 2 (q_L [(0, .inr (.inr (some (0, 0)))), (1, .inr (.inr (some (4, l1)))), (2, .inl l2)]) [] σ (JB_report_r r0)) (h : JB_report_b2 n k2 f l1 l2 σ = some r0) : q_ex q_pr n 4 26 2 (q_L [(0, .inr (.inr (some (0, 0)))), (1, .inr (.inr (some (4, l1)))), (2, .inl l2)]) [] σ (JB_report_r r0) := by
  unfold JB_report_b2 at h
  refine q_ex_br 4 (c := (σ.1 0 4 0) ≤ l2) (pc1 := 46) (pc2 := 10) (L' := (q_L [(0, .inr (.inr (some (0, 0)))), (1, .inr (.inr (some (4, l1)))), (2, .inl l2)])) (st' := []) (σ' := σ) (fun _ => rfl) (fun hc => ?_) (fun hc => ?_)
  · rw [if_pos hc] at h
    cases h
    exact ⟨1, rfl⟩
  · rw [if_neg hc] at h
    refine q_by h (fun hz h => ?_)
    refine q_by h (fun hy h => ?_)
    refine q_ex_g2 5 (pc' := 17) (L' := (q_L [(0, .inr (.inr (some (0, 0)))), (1, .inr (.inr (some (4, l1)))), (2, .inl l2)])) (st' := [.inr (.inr (some (18, σ.2.2.2 20 0 l2.toNatClampNeg))), .inr (.inr (some (0, 0)))]) (σ' := σ) (fun _ => rfl) hz hy ?_
    obtain ⟨q1, hq1, h⟩ := Option.bind_eq_some_iff.mp h
    refine q_ex_ca 3 (k1 := 11) (vs := [.inr (.inr (some (0, 0))), .inr (.inr (some (8, (σ.2.2.2 20 0 l2.toNatClampNeg)))), .inr (.inr (some (4, l1)))]) (pc' := 24) (L' := (q_L [(0, .inr (.inr (some (0, 0)))), (1, .inr (.inr (some (4, l1)))), (2, .inl l2)])) (rest := []) (σ' := σ) (fun _ => rfl) (q_ex_dd (JB_fitsAlone_e hq1) (Nat.le_of_ble_eq_true rfl)) rfl ?_
    refine q_ex_br 1 (c := q1.1 = 0) (pc1 := 40) (pc2 := 27) (L' := (q_L [(0, .inr (.inr (some (0, 0)))), (1, .inr (.inr (some (4, l1)))), (2, .inl l2)])) (st' := []) (σ' := q1.2) (fun _ => rfl) (fun hc => ?_) (fun hc => ?_)
    · rw [if_pos hc] at h
      exact q_ex_ll (JB_report_b40_e hk2 h) ⟨rfl, rfl, rfl, trivial⟩
    · rw [if_neg hc] at h
      refine q_by h (fun hz h => ?_)
      refine q_by h (fun hy h => ?_)
      refine q_ex_g2 4 (pc' := 33) (L' := (q_L [(0, .inr (.inr (some (0, 0)))), (1, .inr (.inr (some (4, l1)))), (2, .inl l2)])) (st' := [.inr (.inr (some (18, q1.2.2.2.2 20 0 l2.toNatClampNeg)))]) (σ' := q1.2) (fun _ => rfl) hz hy ?_
      obtain ⟨q2, hq2, h⟩ := Option.bind_eq_some_iff.mp h
      refine q_ex_ca 3 (k1 := 59) (vs := [.inr (.inr (some (18, q1.2.2.2.2 20 0 l2.toNatClampNeg))), .inl (q1.2.1 4 1 l1)]) (pc' := 40) (L' := (q_L [(0, .inr (.inr (some (0, 0)))), (1, .inr (.inr (some (4, l1)))), (2, .inl l2)])) (rest := []) (σ' := q1.2) (fun _ => rfl) (q_ex_dd (Order_addReport_e hq2) (Nat.le_of_ble_eq_true rfl)) rfl ?_
      exact q_ex_ll (JB_report_b40_e hk2 h) ⟨rfl, rfl, rfl, trivial⟩
theorem JB_report_L2_e {n : Nat} {r0 : J} (f : Nat) : ∀ {l1 : Nat} {l2 : Int32} {σ : J}, JB_report_L2 n f l1 l2 σ = some r0 → q_ex q_pr n 4 26 2 (q_L [(0, .inr (.inr (some (0, 0)))), (1, .inr (.inr (some (4, l1)))), (2, .inl l2)]) [] σ (JB_report_r r0) := by
  induction f with
  | zero => intro l1 l2 σ h; cases h
  | succ f ih =>
    intro l1 l2 σ h
    exact JB_report_b2_e (f := f)  (fun h => ih h) h
theorem JB_report_b0_e {n : Nat} {r0 : J} {f : Nat} {l1 : Nat} {σ : J} (h : JB_report_b0 n f l1 σ = some r0) : q_ex q_pr n 4 26 0 (q_L [(0, .inr (.inr (some (0, 0)))), (1, .inr (.inr (some (4, l1))))]) [] σ (JB_report_r r0) := by
  unfold JB_report_b0 at h
  refine q_ex_go 2 (pc' := 2) (L' := (q_s1 (q_L [(0, .inr (.inr (some (0, 0)))), (1, .inr (.inr (some (4, l1))))]) 2 (.inl 0))) (st' := []) (σ' := σ) (fun _ => rfl) ?_
  exact q_ex_ll (JB_report_L2_e f h) ⟨rfl, rfl, rfl, trivial⟩
theorem JB_report_e {n : Nat} {r0 : J} {f : Nat} {x1 : Nat} {σ : J} (h : JB_report n f x1 σ = some r0) : q_ex q_pr n 4 26 0 (q_args 0 [.inr (.inr (some (0, 0))), .inr (.inr (some (4, x1)))]) [] σ (JB_report_r r0) := q_ex_ll (JB_report_b0_e h) ⟨rfl, rfl, trivial⟩
def JB_settle_r : J → Res := fun σ => (.inl none, σ)
-- 32: JB_settle
def JB_settle_b82 (n : Nat) (f : Nat) (σ : J) : Option (J) := some σ
def JB_settle_b68 (n : Nat) (k4 : Int32 → Int32 → Int32 → J → Option (J)) (f : Nat) (l1 : Int32) (l2 : Int32) (l3 : Int32) (σ : J) : Option (J) := k4 l1 l2 (l3 + 1) σ
def JB_settle_b4 (n : Nat) (k4 : Int32 → Int32 → Int32 → J → Option (J)) (f : Nat) (l1 : Int32) (l2 : Int32) (l3 : Int32) (σ : J) : Option (J) := if (σ.1 2 1 0) ≤ l3 then if l2 = 0 then JB_settle_b82 n f σ else (JB_serveLine n f σ).bind fun q1 => JB_settle_b82 n f q1 else if q_in l3 20 = true then if Nat.blt (σ.2.2.2 3 0 l3.toNatClampNeg) 20 = true then (Tuple_isTakenBy n (σ.2.2.2 3 0 l3.toNatClampNeg) l1 1 σ).bind fun q2 => if q2.1 = 0 then (Tuple_isPutIn n (σ.2.2.2 3 0 l3.toNatClampNeg) l1 1 q2.2).bind fun q3 => if q3.1 = 0 then JB_settle_b68 n k4 f l1 l2 l3 q3.2 else (Tuple_putOutside n (σ.2.2.2 3 0 l3.toNatClampNeg) q3.2).bind fun q4 => (JB_report n f (σ.2.2.2 3 0 l3.toNatClampNeg) q4).bind fun q5 => JB_settle_b68 n k4 f l1 1 l3 q5 else if (0 : Int32) &&& 1 = 0 then q_bs (q_sI q2.2 4 0 (σ.2.2.2 3 0 l3.toNatClampNeg) 0) fun σ6 => JB_settle_b68 n k4 f l1 l2 l3 σ6 else none else none else none
def JB_settle_L4 (n : Nat) : Nat → Int32 → Int32 → Int32 → J → Option (J)
  | 0 => fun _ _ _ _ => none
  | f + 1 => fun l1 l2 l3 σ => JB_settle_b4 n (JB_settle_L4 n f) f l1 l2 l3 σ
def JB_settle_b0 (n : Nat) (f : Nat) (l1 : Int32) (σ : J) : Option (J) := JB_settle_L4 n f l1 0 0 σ
def JB_settle (n : Nat) (f : Nat) (x1 : Int32) (σ : J) : Option (J) := JB_settle_b0 n f x1 σ
theorem JB_settle_b82_e {n : Nat} {r0 : J} {f : Nat} {σ : J} (h : JB_settle_b82 n f σ = some r0) : q_ex q_pr n 9 32 82 (q_L []) [] σ (JB_settle_r r0) := by
  unfold JB_settle_b82 at h
  cases h
  exact ⟨1, rfl⟩
theorem JB_settle_b68_e {n : Nat} {r0 : J} {k4 : Int32 → Int32 → Int32 → J → Option (J)} {f : Nat} {l1 : Int32} {l2 : Int32} {l3 : Int32} {σ : J} (hk4 : ∀ {l1 : Int32} {l2 : Int32} {l3 : Int32} {σ : J}, k4 l1 l2 l3 σ = some r0 → q_ex q_pr n 9 32 4 (q_L [(0, .inr (.inr (some (0, 0)))), (1, .inl l1), (2, .inl l2), (3, .inl l3)]) [] σ (JB_settle_r r0)) (h : JB_settle_b68 n k4 f l1 l2 l3 σ = some r0) : q_ex q_pr n 9 32 68 (q_L [(0, .inr (.inr (some (0, 0)))), (1, .inl l1), (2, .inl l2), (3, .inl l3)]) [] σ (JB_settle_r r0) := by
  unfold JB_settle_b68 at h
  refine q_ex_go 2 (pc' := 4) (L' := (q_s1 (q_L [(0, .inr (.inr (some (0, 0)))), (1, .inl l1), (2, .inl l2), (3, .inl l3)]) 3 (.inl (l3 + 1)))) (st' := []) (σ' := σ) (fun _ => rfl) ?_
  exact q_ex_ll (hk4 h) ⟨rfl, rfl, rfl, rfl, trivial⟩
theorem JB_settle_b4_e {n : Nat} {r0 : J} {k4 : Int32 → Int32 → Int32 → J → Option (J)} {f : Nat} {l1 : Int32} {l2 : Int32} {l3 : Int32} {σ : J} (hk4 : ∀ {l1 : Int32} {l2 : Int32} {l3 : Int32} {σ : J}, k4 l1 l2 l3 σ = some r0 → q_ex q_pr n 9 32 4 (q_L [(0, .inr (.inr (some (0, 0)))), (1, .inl l1), (2, .inl l2), (3, .inl l3)]) [] σ (JB_settle_r r0)) (h : JB_settle_b4 n k4 f l1 l2 l3 σ = some r0) : q_ex q_pr n 9 32 4 (q_L [(0, .inr (.inr (some (0, 0)))), (1, .inl l1), (2, .inl l2), (3, .inl l3)]) [] σ (JB_settle_r r0) := by
  unfold JB_settle_b4 at h
  refine q_ex_br 5 (c := (σ.1 2 1 0) ≤ l3) (pc1 := 74) (pc2 := 15) (L' := (q_L [(0, .inr (.inr (some (0, 0)))), (1, .inl l1), (2, .inl l2), (3, .inl l3)])) (st' := []) (σ' := σ) (fun _ => rfl) (fun hc => ?_) (fun hc => ?_)
  · rw [if_pos hc] at h
    refine q_ex_br 2 (c := l2 = 0) (pc1 := 82) (pc2 := 78) (L' := (q_L [(0, .inr (.inr (some (0, 0)))), (1, .inl l1), (2, .inl l2), (3, .inl l3)])) (st' := []) (σ' := σ) (fun _ => rfl) (fun hc => ?_) (fun hc => ?_)
    · rw [if_pos hc] at h
      exact q_ex_ll (JB_settle_b82_e h) trivial
    · rw [if_neg hc] at h
      obtain ⟨q1, hq1, h⟩ := Option.bind_eq_some_iff.mp h
      refine q_ex_ca 2 (k1 := 29) (vs := [.inr (.inr (some (0, 0)))]) (pc' := 82) (L' := (q_L [(0, .inr (.inr (some (0, 0)))), (1, .inl l1), (2, .inl l2), (3, .inl l3)])) (rest := []) (σ' := σ) (fun _ => rfl) (q_ex_dd (JB_serveLine_e hq1) (Nat.le_of_ble_eq_true rfl)) rfl ?_
      exact q_ex_ll (JB_settle_b82_e h) trivial
  · rw [if_neg hc] at h
    refine q_by h (fun hz h => ?_)
    refine q_by h (fun hy h => ?_)
    refine q_ex_g2 5 (pc' := 24) (L' := (q_L [(0, .inr (.inr (some (0, 0)))), (1, .inl l1), (2, .inl l2), (3, .inl l3)])) (st' := [.inr (.inr (some (4, σ.2.2.2 3 0 l3.toNatClampNeg)))]) (σ' := σ) (fun _ => rfl) hz hy ?_
    obtain ⟨q2, hq2, h⟩ := Option.bind_eq_some_iff.mp h
    refine q_ex_ca 5 (k1 := 75) (vs := [.inr (.inr (some (4, σ.2.2.2 3 0 l3.toNatClampNeg))), .inl l1, .inl 1]) (pc' := 33) (L' := (q_s1 (q_L [(0, .inr (.inr (some (0, 0)))), (1, .inl l1), (2, .inl l2), (3, .inl l3)]) 4 (.inr (.inr (some (4, σ.2.2.2 3 0 l3.toNatClampNeg)))))) (rest := []) (σ' := σ) (fun _ => rfl) (q_ex_dd (Tuple_isTakenBy_e hq2) (Nat.le_of_ble_eq_true rfl)) rfl ?_
    refine q_ex_br 1 (c := q2.1 = 0) (pc1 := 45) (pc2 := 36) (L' := (q_s1 (q_L [(0, .inr (.inr (some (0, 0)))), (1, .inl l1), (2, .inl l2), (3, .inl l3)]) 4 (.inr (.inr (some (4, σ.2.2.2 3 0 l3.toNatClampNeg)))))) (st' := []) (σ' := q2.2) (fun _ => rfl) (fun hc => ?_) (fun hc => ?_)
    · rw [if_pos hc] at h
      obtain ⟨q3, hq3, h⟩ := Option.bind_eq_some_iff.mp h
      refine q_ex_ca 4 (k1 := 72) (vs := [.inr (.inr (some (4, σ.2.2.2 3 0 l3.toNatClampNeg))), .inl l1, .inl 1]) (pc' := 52) (L' := (q_s1 (q_L [(0, .inr (.inr (some (0, 0)))), (1, .inl l1), (2, .inl l2), (3, .inl l3)]) 4 (.inr (.inr (some (4, σ.2.2.2 3 0 l3.toNatClampNeg)))))) (rest := []) (σ' := q2.2) (fun _ => rfl) (q_ex_dd (Tuple_isPutIn_e hq3) (Nat.le_of_ble_eq_true rfl)) rfl ?_
      refine q_ex_br 1 (c := q3.1 = 0) (pc1 := 68) (pc2 := 55) (L' := (q_s1 (q_L [(0, .inr (.inr (some (0, 0)))), (1, .inl l1), (2, .inl l2), (3, .inl l3)]) 4 (.inr (.inr (some (4, σ.2.2.2 3 0 l3.toNatClampNeg)))))) (st' := []) (σ' := q3.2) (fun _ => rfl) (fun hc => ?_) (fun hc => ?_)
      · rw [if_pos hc] at h
        exact q_ex_ll (JB_settle_b68_e hk4 h) ⟨rfl, rfl, rfl, rfl, trivial⟩
      · rw [if_neg hc] at h
        obtain ⟨q4, hq4, h⟩ := Option.bind_eq_some_iff.mp h
        refine q_ex_ca 2 (k1 := 77) (vs := [.inr (.inr (some (4, σ.2.2.2 3 0 l3.toNatClampNeg)))]) (pc' := 60) (L' := (q_s1 (q_L [(0, .inr (.inr (some (0, 0)))), (1, .inl l1), (2, .inl l2), (3, .inl l3)]) 4 (.inr (.inr (some (4, σ.2.2.2 3 0 l3.toNatClampNeg)))))) (rest := []) (σ' := q3.2) (fun _ => rfl) (q_ex_dd (Tuple_putOutside_e hq4) (Nat.le_of_ble_eq_true rfl)) rfl ?_
        obtain ⟨q5, hq5, h⟩ := Option.bind_eq_some_iff.mp h
        refine q_ex_ca 3 (k1 := 26) (vs := [.inr (.inr (some (0, 0))), .inr (.inr (some (4, σ.2.2.2 3 0 l3.toNatClampNeg)))]) (pc' := 66) (L' := (q_s1 (q_L [(0, .inr (.inr (some (0, 0)))), (1, .inl l1), (2, .inl l2), (3, .inl l3)]) 4 (.inr (.inr (some (4, σ.2.2.2 3 0 l3.toNatClampNeg)))))) (rest := []) (σ' := q4) (fun _ => rfl) (q_ex_dd (JB_report_e hq5) (Nat.le_of_ble_eq_true rfl)) rfl ?_
        refine q_ex_go 2 (pc' := 68) (L' := (q_s1 (q_s1 (q_L [(0, .inr (.inr (some (0, 0)))), (1, .inl l1), (2, .inl l2), (3, .inl l3)]) 4 (.inr (.inr (some (4, σ.2.2.2 3 0 l3.toNatClampNeg))))) 2 (.inl 1))) (st' := []) (σ' := q5) (fun _ => rfl) ?_
        exact q_ex_ll (JB_settle_b68_e hk4 h) ⟨rfl, rfl, rfl, rfl, trivial⟩
    · rw [if_neg hc] at h
      refine q_by h (fun hz h => ?_)
      refine q_ex_gi 3 (pc' := 42) (L' := (q_s1 (q_L [(0, .inr (.inr (some (0, 0)))), (1, .inl l1), (2, .inl l2), (3, .inl l3)]) 4 (.inr (.inr (some (4, σ.2.2.2 3 0 l3.toNatClampNeg)))))) (st' := []) (σ' := (q_sI q2.2 4 0 (σ.2.2.2 3 0 l3.toNatClampNeg) 0)) (fun _ => rfl) hz ?_
      refine q_nm (G := fun τ => q_ex q_pr n _ 32 42 (q_s1 (q_L [(0, .inr (.inr (some (0, 0)))), (1, .inl l1), (2, .inl l2), (3, .inl l3)]) 4 (.inr (.inr (some (4, σ.2.2.2 3 0 l3.toNatClampNeg))))) [] τ _) h (fun σ6 h => ?_)
      refine q_ex_go 1 (pc' := 68) (L' := (q_s1 (q_L [(0, .inr (.inr (some (0, 0)))), (1, .inl l1), (2, .inl l2), (3, .inl l3)]) 4 (.inr (.inr (some (4, σ.2.2.2 3 0 l3.toNatClampNeg)))))) (st' := []) (σ' := σ6) (fun _ => rfl) ?_
      exact q_ex_ll (JB_settle_b68_e hk4 h) ⟨rfl, rfl, rfl, rfl, trivial⟩
theorem JB_settle_L4_e {n : Nat} {r0 : J} (f : Nat) : ∀ {l1 : Int32} {l2 : Int32} {l3 : Int32} {σ : J}, JB_settle_L4 n f l1 l2 l3 σ = some r0 → q_ex q_pr n 9 32 4 (q_L [(0, .inr (.inr (some (0, 0)))), (1, .inl l1), (2, .inl l2), (3, .inl l3)]) [] σ (JB_settle_r r0) := by
  induction f with
  | zero => intro l1 l2 l3 σ h; cases h
  | succ f ih =>
    intro l1 l2 l3 σ h
    exact JB_settle_b4_e (f := f)  (fun h => ih h) h
theorem JB_settle_b0_e {n : Nat} {r0 : J} {f : Nat} {l1 : Int32} {σ : J} (h : JB_settle_b0 n f l1 σ = some r0) : q_ex q_pr n 9 32 0 (q_L [(0, .inr (.inr (some (0, 0)))), (1, .inl l1)]) [] σ (JB_settle_r r0) := by
  unfold JB_settle_b0 at h
  refine q_ex_go 4 (pc' := 4) (L' := (q_s1 (q_s1 (q_L [(0, .inr (.inr (some (0, 0)))), (1, .inl l1)]) 2 (.inl 0)) 3 (.inl 0))) (st' := []) (σ' := σ) (fun _ => rfl) ?_
  exact q_ex_ll (JB_settle_L4_e f h) ⟨rfl, rfl, rfl, rfl, trivial⟩
theorem JB_settle_e {n : Nat} {r0 : J} {f : Nat} {x1 : Int32} {σ : J} (h : JB_settle n f x1 σ = some r0) : q_ex q_pr n 9 32 0 (q_args 0 [.inr (.inr (some (0, 0))), .inl x1]) [] σ (JB_settle_r r0) := q_ex_ll (JB_settle_b0_e h) ⟨rfl, rfl, trivial⟩
def JB_commit_r : (Int32 ⊕ Nat) × J → Res := fun q => ((match q.1 with | .inl r => .inl (some (.inl r)) | .inr e => .inr e), q.2)
-- 5: JB_commit
def JB_commit_b67 (n : Nat) (f : Nat) (l3 : Int32) (σ : J) : Option ((Int32 ⊕ Nat) × J) := some (.inl l3, σ)
def JB_commit_b0 (n : Nat) (f : Nat) (l1 : Int32) (σ : J) : Option ((Int32 ⊕ Nat) × J) := (JB_readySession n l1 σ).bind fun q1 => (match q1.1 with | .inl r1 => if Nat.blt r1 (0 + n) = true then if (q1.2.1 16 4 r1) = 0 then some (.inl (-1), q1.2) else (Board_countInDeal n f l1 (q1.2.1 16 4 r1) q1.2).bind fun q2 => q_bs (q_sI q2.2 16 4 r1 ((q2.2.1 16 4 r1) - 1)) fun σ3 => if (σ3.1 16 4 r1) ≤ 0 then (JB_settle n f l1 σ3).bind fun q4 => JB_commit_b67 n f q2.1 q4 else (Board_handOver n f l1 ((σ3.1 16 4 r1) + 1) σ3).bind fun q5 => JB_commit_b67 n f q2.1 q5 else none | .inr k0 => some (.inr k0, q1.2))
def JB_commit (n : Nat) (f : Nat) (x1 : Int32) (σ : J) : Option ((Int32 ⊕ Nat) × J) := JB_commit_b0 n f x1 σ
theorem JB_commit_b67_e {n : Nat} {r0 : (Int32 ⊕ Nat) × J} {f : Nat} {l3 : Int32} {σ : J} (h : JB_commit_b67 n f l3 σ = some r0) : q_ex q_pr n 10 5 67 (q_L [(3, .inl l3)]) [] σ (JB_commit_r r0) := by
  unfold JB_commit_b67 at h
  refine q_ex_go 1 (pc' := 68) (L' := (q_L [(3, .inl l3)])) (st' := [.inl l3]) (σ' := σ) (fun _ => rfl) ?_
  cases h
  exact ⟨1, rfl⟩
theorem JB_commit_b0_e {n : Nat} {r0 : (Int32 ⊕ Nat) × J} {f : Nat} {l1 : Int32} {σ : J} (h : JB_commit_b0 n f l1 σ = some r0) : q_ex q_pr n 10 5 0 (q_L [(0, .inr (.inr (some (0, 0)))), (1, .inl l1)]) [] σ (JB_commit_r r0) := by
  unfold JB_commit_b0 at h
  obtain ⟨q1, hq1, h⟩ := Option.bind_eq_some_iff.mp h
  obtain ⟨q1, σ1⟩ := q1
  cases q1 with
  | inr k0 =>
    cases h
    exact q_ex_cx 3 (k1 := 24) (vs := [.inr (.inr (some (0, 0))), .inl l1]) (pc' := 5) (L' := (q_L [(0, .inr (.inr (some (0, 0)))), (1, .inl l1)])) (rest := []) (σ' := σ) (fun _ => rfl) (q_ex_dd (JB_readySession_e hq1) (Nat.le_of_ble_eq_true rfl))
  | inl r1 =>
    refine q_by h (fun hy h => ?_)
    refine q_ex_ca 3 (k1 := 24) (vs := [.inr (.inr (some (0, 0))), .inl l1]) (pc' := 5) (L' := (q_L [(0, .inr (.inr (some (0, 0)))), (1, .inl l1)])) (rest := []) (σ' := σ) (fun _ => rfl) (q_ex_dd (JB_readySession_e hq1) (Nat.le_of_ble_eq_true rfl)) hy ?_
    refine q_ex_br 4 (c := (σ1.1 16 4 r1) = 0) (pc1 := 13) (pc2 := 15) (L' := (q_s1 (q_L [(0, .inr (.inr (some (0, 0)))), (1, .inl l1)]) 2 (.inr (.inr (some (16, r1)))))) (st' := []) (σ' := σ1) (fun _ => rfl) (fun hc => ?_) (fun hc => ?_)
    · rw [if_pos hc] at h
      refine q_ex_go 1 (pc' := 14) (L' := (q_s1 (q_L [(0, .inr (.inr (some (0, 0)))), (1, .inl l1)]) 2 (.inr (.inr (some (16, r1)))))) (st' := [.inl (-1)]) (σ' := σ1) (fun _ => rfl) ?_
      cases h
      exact ⟨1, rfl⟩
    · rw [if_neg hc] at h
      obtain ⟨q2, hq2, h⟩ := Option.bind_eq_some_iff.mp h
      refine q_ex_ca 6 (k1 := 38) (vs := [.inr (.inr (some (2, 0))), .inl l1, .inl (σ1.1 16 4 r1)]) (pc' := 27) (L' := (q_s1 (q_L [(0, .inr (.inr (some (0, 0)))), (1, .inl l1)]) 2 (.inr (.inr (some (16, r1)))))) (rest := []) (σ' := σ1) (fun _ => rfl) (q_ex_dd (Board_countInDeal_e hq2) (Nat.le_of_ble_eq_true rfl)) rfl ?_
      refine q_ex_go 7 (pc' := 38) (L' := (q_s1 (q_s1 (q_L [(0, .inr (.inr (some (0, 0)))), (1, .inl l1)]) 2 (.inr (.inr (some (16, r1))))) 3 (.inl q2.1))) (st' := []) (σ' := (q_sI q2.2 16 4 r1 ((q2.2.1 16 4 r1) - 1))) (fun _ => rfl) ?_
      refine q_nm (G := fun τ => q_ex q_pr n _ 5 38 (q_s1 (q_s1 (q_L [(0, .inr (.inr (some (0, 0)))), (1, .inl l1)]) 2 (.inr (.inr (some (16, r1))))) 3 (.inl q2.1)) [] τ _) h (fun σ3 h => ?_)
      refine q_ex_br 3 (c := (σ3.1 16 4 r1) ≤ 0) (pc1 := 62) (pc2 := 45) (L' := (q_s1 (q_s1 (q_L [(0, .inr (.inr (some (0, 0)))), (1, .inl l1)]) 2 (.inr (.inr (some (16, r1))))) 3 (.inl q2.1))) (st' := []) (σ' := σ3) (fun _ => rfl) (fun hc => ?_) (fun hc => ?_)
      · rw [if_pos hc] at h
        obtain ⟨q4, hq4, h⟩ := Option.bind_eq_some_iff.mp h
        refine q_ex_ca 3 (k1 := 32) (vs := [.inr (.inr (some (0, 0))), .inl l1]) (pc' := 67) (L' := (q_s1 (q_s1 (q_L [(0, .inr (.inr (some (0, 0)))), (1, .inl l1)]) 2 (.inr (.inr (some (16, r1))))) 3 (.inl q2.1))) (rest := []) (σ' := σ3) (fun _ => rfl) (q_ex_dd (JB_settle_e hq4) (Nat.le_of_ble_eq_true rfl)) rfl ?_
        exact q_ex_ll (JB_commit_b67_e h) ⟨rfl, trivial⟩
      · rw [if_neg hc] at h
        obtain ⟨q5, hq5, h⟩ := Option.bind_eq_some_iff.mp h
        refine q_ex_ca 8 (k1 := 39) (vs := [.inr (.inr (some (2, 0))), .inl l1, .inl ((σ3.1 16 4 r1) + 1)]) (pc' := 59) (L' := (q_s1 (q_s1 (q_L [(0, .inr (.inr (some (0, 0)))), (1, .inl l1)]) 2 (.inr (.inr (some (16, r1))))) 3 (.inl q2.1))) (rest := []) (σ' := σ3) (fun _ => rfl) (q_ex_dd (Board_handOver_e hq5) (Nat.le_of_ble_eq_true rfl)) rfl ?_
        refine q_ex_go 1 (pc' := 67) (L' := (q_s1 (q_s1 (q_L [(0, .inr (.inr (some (0, 0)))), (1, .inl l1)]) 2 (.inr (.inr (some (16, r1))))) 3 (.inl q2.1))) (st' := []) (σ' := q5) (fun _ => rfl) ?_
        exact q_ex_ll (JB_commit_b67_e h) ⟨rfl, trivial⟩
theorem JB_commit_e {n : Nat} {r0 : (Int32 ⊕ Nat) × J} {f : Nat} {x1 : Int32} {σ : J} (h : JB_commit n f x1 σ = some r0) : q_ex q_pr n 10 5 0 (q_args 0 [.inr (.inr (some (0, 0))), .inl x1]) [] σ (JB_commit_r r0) := q_ex_ll (JB_commit_b0_e h) ⟨rfl, rfl, trivial⟩
def JB_endTuple_r : (Int32) × J → Res := fun q => (.inl (some (.inl q.1)), q.2)
-- 6: JB_endTuple
def JB_endTuple_b43 (n : Nat) (f : Nat) (l1 : Nat) (l2 : Int32) (σ : J) : Option ((Int32) × J) := if (0 : Int32) &&& 1 = 0 then q_bs (q_sI σ 4 0 l1 0) fun σ4 => if l2 &&& 1 = l2 then some (l2, σ4) else none else none
def JB_endTuple_b0 (n : Nat) (f : Nat) (l1 : Nat) (σ : J) : Option ((Int32) × J) := (Tuple_isTaken n l1 σ).bind fun q1 => if q1.1 = 0 then JB_endTuple_b43 n f l1 0 q1.2 else if q_in (q1.2.1 4 5 l1) (0 + n) = true then if Nat.blt (q1.2.2.2.2 1 0 (q1.2.1 4 5 l1).toNatClampNeg) (0 + n) = true then (JB_abandonDownTo n f (q1.2.2.2.2 1 0 (q1.2.1 4 5 l1).toNatClampNeg) (q1.2.1 4 6 l1) q1.2).bind fun q2 => if (q2.2.1 16 5 (q1.2.2.2.2 1 0 (q1.2.1 4 5 l1).toNatClampNeg)) = 1 then (JB_endWait n f (q1.2.2.2.2 1 0 (q1.2.1 4 5 l1).toNatClampNeg) 3 q2.2).bind fun q3 => JB_endTuple_b43 n f l1 q2.1 q3 else JB_endTuple_b43 n f l1 q2.1 q2.2 else none else none
def JB_endTuple (n : Nat) (f : Nat) (x1 : Nat) (σ : J) : Option ((Int32) × J) := JB_endTuple_b0 n f x1 σ
theorem JB_endTuple_b43_e {n : Nat} {r0 : (Int32) × J} {f : Nat} {l1 : Nat} {l2 : Int32} {σ : J} (h : JB_endTuple_b43 n f l1 l2 σ = some r0) : q_ex q_pr n 3 6 43 (q_L [(1, .inr (.inr (some (4, l1)))), (2, .inl l2)]) [] σ (JB_endTuple_r r0) := by
  unfold JB_endTuple_b43 at h
  refine q_by h (fun hz h => ?_)
  refine q_ex_gi 3 (pc' := 48) (L' := (q_L [(1, .inr (.inr (some (4, l1)))), (2, .inl l2)])) (st' := []) (σ' := (q_sI σ 4 0 l1 0)) (fun _ => rfl) hz ?_
  refine q_nm (G := fun τ => q_ex q_pr n _ 6 48 (q_L [(1, .inr (.inr (some (4, l1)))), (2, .inl l2)]) [] τ _) h (fun σ4 h => ?_)
  refine q_ex_go 1 (pc' := 49) (L' := (q_L [(1, .inr (.inr (some (4, l1)))), (2, .inl l2)])) (st' := [.inl l2]) (σ' := σ4) (fun _ => rfl) ?_
  refine q_by h (fun hz h => ?_)
  cases h
  exact ⟨1, if_pos (e := (none : Option Res)) hz⟩
theorem JB_endTuple_b0_e {n : Nat} {r0 : (Int32) × J} {f : Nat} {l1 : Nat} {σ : J} (h : JB_endTuple_b0 n f l1 σ = some r0) : q_ex q_pr n 3 6 0 (q_L [(0, .inr (.inr (some (0, 0)))), (1, .inr (.inr (some (4, l1))))]) [] σ (JB_endTuple_r r0) := by
  unfold JB_endTuple_b0 at h
  obtain ⟨q1, hq1, h⟩ := Option.bind_eq_some_iff.mp h
  refine q_ex_ca 4 (k1 := 74) (vs := [.inr (.inr (some (4, l1)))]) (pc' := 6) (L' := (q_s1 (q_L [(0, .inr (.inr (some (0, 0)))), (1, .inr (.inr (some (4, l1))))]) 2 (.inl 0))) (rest := []) (σ' := σ) (fun _ => rfl) (q_ex_dd (Tuple_isTaken_e hq1) (Nat.le_of_ble_eq_true rfl)) rfl ?_
  refine q_ex_br 1 (c := q1.1 = 0) (pc1 := 43) (pc2 := 9) (L' := (q_s1 (q_L [(0, .inr (.inr (some (0, 0)))), (1, .inr (.inr (some (4, l1))))]) 2 (.inl 0))) (st' := []) (σ' := q1.2) (fun _ => rfl) (fun hc => ?_) (fun hc => ?_)
  · rw [if_pos hc] at h
    exact q_ex_ll (JB_endTuple_b43_e h) ⟨rfl, rfl, trivial⟩
  · rw [if_neg hc] at h
    refine q_by h (fun hz h => ?_)
    refine q_by h (fun hy h => ?_)
    refine q_ex_g2 5 (pc' := 18) (L' := (q_s1 (q_L [(0, .inr (.inr (some (0, 0)))), (1, .inr (.inr (some (4, l1))))]) 2 (.inl 0))) (st' := [.inr (.inr (some (16, q1.2.2.2.2 1 0 (q1.2.1 4 5 l1).toNatClampNeg)))]) (σ' := q1.2) (fun _ => rfl) hz hy ?_
    obtain ⟨q2, hq2, h⟩ := Option.bind_eq_some_iff.mp h
    refine q_ex_ca 6 (k1 := 1) (vs := [.inr (.inr (some (0, 0))), .inr (.inr (some (16, q1.2.2.2.2 1 0 (q1.2.1 4 5 l1).toNatClampNeg))), .inl (q1.2.1 4 6 l1)]) (pc' := 28) (L' := (q_s1 (q_s1 (q_L [(0, .inr (.inr (some (0, 0)))), (1, .inr (.inr (some (4, l1))))]) 2 (.inl 0)) 3 (.inr (.inr (some (16, q1.2.2.2.2 1 0 (q1.2.1 4 5 l1).toNatClampNeg)))))) (rest := []) (σ' := q1.2) (fun _ => rfl) (q_ex_dd (JB_abandonDownTo_e hq2) (Nat.le_of_ble_eq_true rfl)) rfl ?_
    refine q_ex_br 5 (c := (q2.2.1 16 5 (q1.2.2.2.2 1 0 (q1.2.1 4 5 l1).toNatClampNeg)) = 1) (pc1 := 37) (pc2 := 43) (L' := (q_s1 (q_s1 (q_s1 (q_L [(0, .inr (.inr (some (0, 0)))), (1, .inr (.inr (some (4, l1))))]) 2 (.inl 0)) 3 (.inr (.inr (some (16, q1.2.2.2.2 1 0 (q1.2.1 4 5 l1).toNatClampNeg))))) 2 (.inl q2.1))) (st' := []) (σ' := q2.2) (fun _ => rfl) (fun hc => ?_) (fun hc => ?_)
    · rw [if_pos hc] at h
      obtain ⟨q3, hq3, h⟩ := Option.bind_eq_some_iff.mp h
      refine q_ex_ca 4 (k1 := 7) (vs := [.inr (.inr (some (0, 0))), .inr (.inr (some (16, q1.2.2.2.2 1 0 (q1.2.1 4 5 l1).toNatClampNeg))), .inl 3]) (pc' := 43) (L' := (q_s1 (q_s1 (q_s1 (q_L [(0, .inr (.inr (some (0, 0)))), (1, .inr (.inr (some (4, l1))))]) 2 (.inl 0)) 3 (.inr (.inr (some (16, q1.2.2.2.2 1 0 (q1.2.1 4 5 l1).toNatClampNeg))))) 2 (.inl q2.1))) (rest := []) (σ' := q2.2) (fun _ => rfl) (q_ex_dd (JB_endWait_e hq3) (Nat.le_of_ble_eq_true rfl)) rfl ?_
      exact q_ex_ll (JB_endTuple_b43_e h) ⟨rfl, rfl, trivial⟩
    · rw [if_neg hc] at h
      exact q_ex_ll (JB_endTuple_b43_e h) ⟨rfl, rfl, trivial⟩
theorem JB_endTuple_e {n : Nat} {r0 : (Int32) × J} {f : Nat} {x1 : Nat} {σ : J} (h : JB_endTuple n f x1 σ = some r0) : q_ex q_pr n 3 6 0 (q_args 0 [.inr (.inr (some (0, 0))), .inr (.inr (some (4, x1)))]) [] σ (JB_endTuple_r r0) := q_ex_ll (JB_endTuple_b0_e h) ⟨rfl, rfl, trivial⟩
def JB_field_r : (Int32 ⊕ Nat) × J → Res := fun q => ((match q.1 with | .inl r => .inl (some (.inl r)) | .inr e => .inr e), q.2)
-- 9: JB_field
def JB_field_b16 (n : Nat) (σ : J) : Option ((Int32 ⊕ Nat) × J) := some (.inr 3, σ)
def JB_field_b0 (n : Nat) (l1 : Int32) (l2 : Int32) (l3 : Int64) (σ : J) : Option ((Int32 ⊕ Nat) × J) := (JB_readySession n l1 σ).bind fun q1 => (match q1.1 with | .inl r1 => if Nat.blt r1 (0 + n) = true then if l2 < 0 then JB_field_b16 n q1.2 else if l2 ≤ 2 then if (q1.2.1 5 0 (20 + r1)) < 4 then (Fields_append n (20 + r1) l2 l3 q1.2).bind fun q2 => some (.inl q2.1, q2.2) else some (.inr 4, q1.2) else JB_field_b16 n q1.2 else none | .inr k0 => some (.inr k0, q1.2))
def JB_field (n : Nat) (x1 : Int32) (x2 : Int32) (x3 : Int64) (σ : J) : Option ((Int32 ⊕ Nat) × J) := JB_field_b0 n x1 x2 x3 σ
theorem JB_field_b16_e {n : Nat} {r0 : (Int32 ⊕ Nat) × J} {σ : J} (h : JB_field_b16 n σ = some r0) : q_ex q_pr n 2 9 16 (q_L []) [] σ (JB_field_r r0) := by
  unfold JB_field_b16 at h
  cases h
  exact ⟨1, rfl⟩
theorem JB_field_b0_e {n : Nat} {r0 : (Int32 ⊕ Nat) × J} {l1 : Int32} {l2 : Int32} {l3 : Int64} {σ : J} (h : JB_field_b0 n l1 l2 l3 σ = some r0) : q_ex q_pr n 2 9 0 (q_L [(0, .inr (.inr (some (0, 0)))), (1, .inl l1), (2, .inl l2), (3, .inr (.inl l3))]) [] σ (JB_field_r r0) := by
  unfold JB_field_b0 at h
  obtain ⟨q1, hq1, h⟩ := Option.bind_eq_some_iff.mp h
  obtain ⟨q1, σ1⟩ := q1
  cases q1 with
  | inr k0 =>
    cases h
    exact q_ex_cx 3 (k1 := 24) (vs := [.inr (.inr (some (0, 0))), .inl l1]) (pc' := 5) (L' := (q_L [(0, .inr (.inr (some (0, 0)))), (1, .inl l1), (2, .inl l2), (3, .inr (.inl l3))])) (rest := []) (σ' := σ) (fun _ => rfl) (q_ex_dd (JB_readySession_e hq1) (Nat.le_of_ble_eq_true rfl))
  | inl r1 =>
    refine q_by h (fun hy h => ?_)
    refine q_ex_ca 3 (k1 := 24) (vs := [.inr (.inr (some (0, 0))), .inl l1]) (pc' := 5) (L' := (q_L [(0, .inr (.inr (some (0, 0)))), (1, .inl l1), (2, .inl l2), (3, .inr (.inl l3))])) (rest := []) (σ' := σ) (fun _ => rfl) (q_ex_dd (JB_readySession_e hq1) (Nat.le_of_ble_eq_true rfl)) hy ?_
    refine q_ex_br 3 (c := l2 < 0) (pc1 := 16) (pc2 := 11) (L' := (q_s1 (q_L [(0, .inr (.inr (some (0, 0)))), (1, .inl l1), (2, .inl l2), (3, .inr (.inl l3))]) 5 (.inr (.inr (some (16, r1)))))) (st' := []) (σ' := σ1) (fun _ => rfl) (fun hc => ?_) (fun hc => ?_)
    · rw [if_pos hc] at h
      exact q_ex_ll (JB_field_b16_e h) trivial
    · rw [if_neg hc] at h
      refine q_ex_br 3 (c := l2 ≤ 2) (pc1 := 24) (pc2 := 16) (L' := (q_s1 (q_L [(0, .inr (.inr (some (0, 0)))), (1, .inl l1), (2, .inl l2), (3, .inr (.inl l3))]) 5 (.inr (.inr (some (16, r1)))))) (st' := []) (σ' := σ1) (fun _ => rfl) (fun hc => ?_) (fun hc => ?_)
      · rw [if_pos hc] at h
        refine q_ex_br 5 (c := (σ1.1 5 0 (20 + r1)) < 4) (pc1 := 44) (pc2 := 36) (L' := (q_s1 (q_L [(0, .inr (.inr (some (0, 0)))), (1, .inl l1), (2, .inl l2), (3, .inr (.inl l3))]) 5 (.inr (.inr (some (16, r1)))))) (st' := []) (σ' := σ1) (fun _ => rfl) (fun hc => ?_) (fun hc => ?_)
        · rw [if_pos hc] at h
          obtain ⟨q2, hq2, h⟩ := Option.bind_eq_some_iff.mp h
          refine q_ex_ca 5 (k1 := 43) (vs := [.inr (.inr (some (5, (20 + r1)))), .inl l2, .inr (.inl l3)]) (pc' := 54) (L' := (q_s1 (q_L [(0, .inr (.inr (some (0, 0)))), (1, .inl l1), (2, .inl l2), (3, .inr (.inl l3))]) 5 (.inr (.inr (some (16, r1)))))) (rest := []) (σ' := σ1) (fun _ => rfl) (q_ex_dd (Fields_append_e hq2) (Nat.le_of_ble_eq_true rfl)) rfl ?_
          cases h
          exact ⟨1, rfl⟩
        · rw [if_neg hc] at h
          cases h
          exact ⟨1, rfl⟩
      · rw [if_neg hc] at h
        exact q_ex_ll (JB_field_b16_e h) trivial
theorem JB_field_e {n : Nat} {r0 : (Int32 ⊕ Nat) × J} {x1 : Int32} {x2 : Int32} {x3 : Int64} {σ : J} (h : JB_field n x1 x2 x3 σ = some r0) : q_ex q_pr n 2 9 0 (q_args 0 [.inr (.inr (some (0, 0))), .inl x1, .inl x2, .inr (.inl x3)]) [] σ (JB_field_r r0) := q_ex_ll (JB_field_b0_e h) ⟨rfl, rfl, rfl, rfl, trivial⟩
def JB_find_r : (Int32 ⊕ Nat) × J → Res := fun q => ((match q.1 with | .inl r => .inl (some (.inl r)) | .inr e => .inr e), q.2)
-- 10: JB_find
def JB_find_b25 (n : Nat) (f : Nat) (σ : J) : Option ((Int32 ⊕ Nat) × J) := some (.inr 3, σ)
def JB_find_b47 (n : Nat) (f : Nat) (l1 : Int32) (l2 : Int32) (l3 : Int32) (l4 : Nat) (s0 : Nat) (s1 : Int32) (s2 : Int32) (σ : J) : Option ((Int32 ⊕ Nat) × J) := (Session_ask n f s0 s1 s2 σ).bind fun q3 => (JB_searchFor n f l4 l2 q3).bind fun q4 => if q4.1 = 0 then if (l3 &&& 2) = 0 then some (.inl (-1), q4.2) else q_bs (q_sI q4.2 16 5 l4 1) fun σ5 => (Line_append n l1 σ5).bind fun q6 => some (.inl 0, q6) else (JB_grant n f l4 q4.2).bind fun q7 => (Finding_numberFor n (l4 + 1) 0 q7).bind fun q8 => some (.inl q8.1, q8.2)
def JB_find_b0 (n : Nat) (f : Nat) (l1 : Int32) (l2 : Int32) (l3 : Int32) (σ : J) : Option ((Int32 ⊕ Nat) × J) := (JB_readySession n l1 σ).bind fun q1 => (match q1.1 with | .inl r1 => if Nat.blt r1 (0 + n) = true then if l3 < 0 then JB_find_b25 n f q1.2 else if 3 < l3 then JB_find_b25 n f q1.2 else (Session_hasPatterns n f r1 l2 q1.2).bind fun q2 => if q2.1 = 0 then JB_find_b25 n f q2.2 else if (l3 &&& 1) = 0 then JB_find_b47 n f l1 l2 l3 r1 r1 l2 0 q2.2 else JB_find_b47 n f l1 l2 l3 r1 r1 l2 1 q2.2 else none | .inr k0 => some (.inr k0, q1.2))
def JB_find (n : Nat) (f : Nat) (x1 : Int32) (x2 : Int32) (x3 : Int32) (σ : J) : Option ((Int32 ⊕ Nat) × J) := JB_find_b0 n f x1 x2 x3 σ
theorem JB_find_b25_e {n : Nat} {r0 : (Int32 ⊕ Nat) × J} {f : Nat} {σ : J} (h : JB_find_b25 n f σ = some r0) : q_ex q_pr n 8 10 25 (q_L []) [] σ (JB_find_r r0) := by
  unfold JB_find_b25 at h
  cases h
  exact ⟨1, rfl⟩
theorem JB_find_b47_e {n : Nat} {r0 : (Int32 ⊕ Nat) × J} {f : Nat} {l1 : Int32} {l2 : Int32} {l3 : Int32} {l4 : Nat} {s0 : Nat} {s1 : Int32} {s2 : Int32} {σ : J} (h : JB_find_b47 n f l1 l2 l3 l4 s0 s1 s2 σ = some r0) : q_ex q_pr n 8 10 47 (q_L [(0, .inr (.inr (some (0, 0)))), (1, .inl l1), (2, .inl l2), (3, .inl l3), (4, .inr (.inr (some (16, l4))))]) [.inl s2, .inl s1, .inr (.inr (some (16, s0)))] σ (JB_find_r r0) := by
  unfold JB_find_b47 at h
  obtain ⟨q3, hq3, h⟩ := Option.bind_eq_some_iff.mp h
  refine q_ex_ca 1 (k1 := 67) (vs := [.inr (.inr (some (16, s0))), .inl s1, .inl s2]) (pc' := 50) (L' := (q_L [(0, .inr (.inr (some (0, 0)))), (1, .inl l1), (2, .inl l2), (3, .inl l3), (4, .inr (.inr (some (16, l4))))])) (rest := []) (σ' := σ) (fun _ => rfl) (q_ex_dd (Session_ask_e hq3) (Nat.le_of_ble_eq_true rfl)) rfl ?_
  obtain ⟨q4, hq4, h⟩ := Option.bind_eq_some_iff.mp h
  refine q_ex_ca 4 (k1 := 27) (vs := [.inr (.inr (some (0, 0))), .inr (.inr (some (16, l4))), .inl l2]) (pc' := 57) (L' := (q_L [(0, .inr (.inr (some (0, 0)))), (1, .inl l1), (2, .inl l2), (3, .inl l3), (4, .inr (.inr (some (16, l4))))])) (rest := []) (σ' := q3) (fun _ => rfl) (q_ex_dd (JB_searchFor_e hq4) (Nat.le_of_ble_eq_true rfl)) rfl ?_
  refine q_ex_br 1 (c := q4.1 = 0) (pc1 := 76) (pc2 := 60) (L' := (q_L [(0, .inr (.inr (some (0, 0)))), (1, .inl l1), (2, .inl l2), (3, .inl l3), (4, .inr (.inr (some (16, l4))))])) (st' := []) (σ' := q4.2) (fun _ => rfl) (fun hc => ?_) (fun hc => ?_)
  · rw [if_pos hc] at h
    refine q_ex_br 4 (c := (l3 &&& 2) = 0) (pc1 := 82) (pc2 := 84) (L' := (q_L [(0, .inr (.inr (some (0, 0)))), (1, .inl l1), (2, .inl l2), (3, .inl l3), (4, .inr (.inr (some (16, l4))))])) (st' := []) (σ' := q4.2) (fun _ => rfl) (fun hc => ?_) (fun hc => ?_)
    · rw [if_pos hc] at h
      refine q_ex_go 1 (pc' := 83) (L' := (q_L [(0, .inr (.inr (some (0, 0)))), (1, .inl l1), (2, .inl l2), (3, .inl l3), (4, .inr (.inr (some (16, l4))))])) (st' := [.inl (-1)]) (σ' := q4.2) (fun _ => rfl) ?_
      cases h
      exact ⟨1, rfl⟩
    · rw [if_neg hc] at h
      refine q_ex_go 3 (pc' := 90) (L' := (q_L [(0, .inr (.inr (some (0, 0)))), (1, .inl l1), (2, .inl l2), (3, .inl l3), (4, .inr (.inr (some (16, l4))))])) (st' := []) (σ' := (q_sI q4.2 16 5 l4 1)) (fun _ => rfl) ?_
      refine q_nm (G := fun τ => q_ex q_pr n _ 10 90 (q_L [(0, .inr (.inr (some (0, 0)))), (1, .inl l1), (2, .inl l2), (3, .inl l3), (4, .inr (.inr (some (16, l4))))]) [] τ _) h (fun σ5 h => ?_)
      obtain ⟨q6, hq6, h⟩ := Option.bind_eq_some_iff.mp h
      refine q_ex_ca 4 (k1 := 56) (vs := [.inr (.inr (some (21, 0))), .inl l1]) (pc' := 98) (L' := (q_L [(0, .inr (.inr (some (0, 0)))), (1, .inl l1), (2, .inl l2), (3, .inl l3), (4, .inr (.inr (some (16, l4))))])) (rest := []) (σ' := σ5) (fun _ => rfl) (q_ex_dd (Line_append_e hq6) (Nat.le_of_ble_eq_true rfl)) rfl ?_
      refine q_ex_go 1 (pc' := 99) (L' := (q_L [(0, .inr (.inr (some (0, 0)))), (1, .inl l1), (2, .inl l2), (3, .inl l3), (4, .inr (.inr (some (16, l4))))])) (st' := [.inl 0]) (σ' := q6) (fun _ => rfl) ?_
      cases h
      exact ⟨1, rfl⟩
  · rw [if_neg hc] at h
    obtain ⟨q7, hq7, h⟩ := Option.bind_eq_some_iff.mp h
    refine q_ex_ca 3 (k1 := 16) (vs := [.inr (.inr (some (0, 0))), .inr (.inr (some (16, l4)))]) (pc' := 66) (L' := (q_L [(0, .inr (.inr (some (0, 0)))), (1, .inl l1), (2, .inl l2), (3, .inl l3), (4, .inr (.inr (some (16, l4))))])) (rest := []) (σ' := q4.2) (fun _ => rfl) (q_ex_dd (JB_grant_e hq7) (Nat.le_of_ble_eq_true rfl)) rfl ?_
    obtain ⟨q8, hq8, h⟩ := Option.bind_eq_some_iff.mp h
    refine q_ex_ca 4 (k1 := 54) (vs := [.inr (.inr (some (12, (l4 + 1)))), .inl 0]) (pc' := 75) (L' := (q_L [(0, .inr (.inr (some (0, 0)))), (1, .inl l1), (2, .inl l2), (3, .inl l3), (4, .inr (.inr (some (16, l4))))])) (rest := []) (σ' := q7) (fun _ => rfl) (q_ex_dd (Finding_numberFor_e hq8) (Nat.le_of_ble_eq_true rfl)) rfl ?_
    cases h
    exact ⟨1, rfl⟩
theorem JB_find_b0_e {n : Nat} {r0 : (Int32 ⊕ Nat) × J} {f : Nat} {l1 : Int32} {l2 : Int32} {l3 : Int32} {σ : J} (h : JB_find_b0 n f l1 l2 l3 σ = some r0) : q_ex q_pr n 8 10 0 (q_L [(0, .inr (.inr (some (0, 0)))), (1, .inl l1), (2, .inl l2), (3, .inl l3)]) [] σ (JB_find_r r0) := by
  unfold JB_find_b0 at h
  obtain ⟨q1, hq1, h⟩ := Option.bind_eq_some_iff.mp h
  obtain ⟨q1, σ1⟩ := q1
  cases q1 with
  | inr k0 =>
    cases h
    exact q_ex_cx 3 (k1 := 24) (vs := [.inr (.inr (some (0, 0))), .inl l1]) (pc' := 5) (L' := (q_L [(0, .inr (.inr (some (0, 0)))), (1, .inl l1), (2, .inl l2), (3, .inl l3)])) (rest := []) (σ' := σ) (fun _ => rfl) (q_ex_dd (JB_readySession_e hq1) (Nat.le_of_ble_eq_true rfl))
  | inl r1 =>
    refine q_by h (fun hy h => ?_)
    refine q_ex_ca 3 (k1 := 24) (vs := [.inr (.inr (some (0, 0))), .inl l1]) (pc' := 5) (L' := (q_L [(0, .inr (.inr (some (0, 0)))), (1, .inl l1), (2, .inl l2), (3, .inl l3)])) (rest := []) (σ' := σ) (fun _ => rfl) (q_ex_dd (JB_readySession_e hq1) (Nat.le_of_ble_eq_true rfl)) hy ?_
    refine q_ex_br 3 (c := l3 < 0) (pc1 := 25) (pc2 := 11) (L' := (q_s1 (q_L [(0, .inr (.inr (some (0, 0)))), (1, .inl l1), (2, .inl l2), (3, .inl l3)]) 4 (.inr (.inr (some (16, r1)))))) (st' := []) (σ' := σ1) (fun _ => rfl) (fun hc => ?_) (fun hc => ?_)
    · rw [if_pos hc] at h
      exact q_ex_ll (JB_find_b25_e h) trivial
    · rw [if_neg hc] at h
      refine q_ex_br 3 (c := 3 < l3) (pc1 := 25) (pc2 := 16) (L' := (q_s1 (q_L [(0, .inr (.inr (some (0, 0)))), (1, .inl l1), (2, .inl l2), (3, .inl l3)]) 4 (.inr (.inr (some (16, r1)))))) (st' := []) (σ' := σ1) (fun _ => rfl) (fun hc => ?_) (fun hc => ?_)
      · rw [if_pos hc] at h
        exact q_ex_ll (JB_find_b25_e h) trivial
      · rw [if_neg hc] at h
        obtain ⟨q2, hq2, h⟩ := Option.bind_eq_some_iff.mp h
        refine q_ex_ca 3 (k1 := 68) (vs := [.inr (.inr (some (16, r1))), .inl l2]) (pc' := 22) (L' := (q_s1 (q_L [(0, .inr (.inr (some (0, 0)))), (1, .inl l1), (2, .inl l2), (3, .inl l3)]) 4 (.inr (.inr (some (16, r1)))))) (rest := []) (σ' := σ1) (fun _ => rfl) (q_ex_dd (Session_hasPatterns_e hq2) (Nat.le_of_ble_eq_true rfl)) rfl ?_
        refine q_ex_br 1 (c := q2.1 = 0) (pc1 := 25) (pc2 := 33) (L' := (q_s1 (q_L [(0, .inr (.inr (some (0, 0)))), (1, .inl l1), (2, .inl l2), (3, .inl l3)]) 4 (.inr (.inr (some (16, r1)))))) (st' := []) (σ' := q2.2) (fun _ => rfl) (fun hc => ?_) (fun hc => ?_)
        · rw [if_pos hc] at h
          exact q_ex_ll (JB_find_b25_e h) trivial
        · rw [if_neg hc] at h
          refine q_ex_br 6 (c := (l3 &&& 1) = 0) (pc1 := 46) (pc2 := 42) (L' := (q_s1 (q_L [(0, .inr (.inr (some (0, 0)))), (1, .inl l1), (2, .inl l2), (3, .inl l3)]) 4 (.inr (.inr (some (16, r1)))))) (st' := [.inl l2, .inr (.inr (some (16, r1)))]) (σ' := q2.2) (fun _ => rfl) (fun hc => ?_) (fun hc => ?_)
          · rw [if_pos hc] at h
            refine q_ex_go 1 (pc' := 47) (L' := (q_s1 (q_L [(0, .inr (.inr (some (0, 0)))), (1, .inl l1), (2, .inl l2), (3, .inl l3)]) 4 (.inr (.inr (some (16, r1)))))) (st' := [.inl 0, .inl l2, .inr (.inr (some (16, r1)))]) (σ' := q2.2) (fun _ => rfl) ?_
            exact q_ex_ll (JB_find_b47_e h) ⟨rfl, rfl, rfl, rfl, rfl, trivial⟩
          · rw [if_neg hc] at h
            refine q_ex_go 2 (pc' := 47) (L' := (q_s1 (q_L [(0, .inr (.inr (some (0, 0)))), (1, .inl l1), (2, .inl l2), (3, .inl l3)]) 4 (.inr (.inr (some (16, r1)))))) (st' := [.inl 1, .inl l2, .inr (.inr (some (16, r1)))]) (σ' := q2.2) (fun _ => rfl) ?_
            exact q_ex_ll (JB_find_b47_e h) ⟨rfl, rfl, rfl, rfl, rfl, trivial⟩
theorem JB_find_e {n : Nat} {r0 : (Int32 ⊕ Nat) × J} {f : Nat} {x1 : Int32} {x2 : Int32} {x3 : Int32} {σ : J} (h : JB_find n f x1 x2 x3 σ = some r0) : q_ex q_pr n 8 10 0 (q_args 0 [.inr (.inr (some (0, 0))), .inl x1, .inl x2, .inl x3]) [] σ (JB_find_r r0) := q_ex_ll (JB_find_b0_e h) ⟨rfl, rfl, rfl, rfl, trivial⟩
def JB_fold_r : (Int64 ⊕ Nat) × J → Res := fun q => ((match q.1 with | .inl r => .inl (some (.inr (.inl r))) | .inr e => .inr e), q.2)
-- 12: JB_fold
def JB_fold_b34 (n : Nat) (f : Nat) (σ : J) : Option ((Int64 ⊕ Nat) × J) := some (.inr 3, σ)
def JB_fold_b162 (n : Nat) (k51 : Int32 → Int32 → Int32 → Nat → Int64 → Int32 → Int32 → J → Option ((Int64 ⊕ Nat) × J)) (f : Nat) (l1 : Int32) (l2 : Int32) (l3 : Int32) (l4 : Nat) (l5 : Int64) (l7 : Int32) (l8 : Int32) (σ : J) : Option ((Int64 ⊕ Nat) × J) := k51 l1 l2 l3 l4 l5 l7 (l8 + 1) σ
def JB_fold_b157 (n : Nat) (k51 : Int32 → Int32 → Int32 → Nat → Int64 → Int32 → Int32 → J → Option ((Int64 ⊕ Nat) × J)) (f : Nat) (l1 : Int32) (l2 : Int32) (l3 : Int32) (l4 : Nat) (l8 : Int32) (s0 : Int64) (σ : J) : Option ((Int64 ⊕ Nat) × J) := JB_fold_b162 n k51 f l1 l2 l3 l4 s0 1 l8 σ
def JB_fold_b51 (n : Nat) (k51 : Int32 → Int32 → Int32 → Nat → Int64 → Int32 → Int32 → J → Option ((Int64 ⊕ Nat) × J)) (f : Nat) (l1 : Int32) (l2 : Int32) (l3 : Int32) (l4 : Nat) (l5 : Int64) (l7 : Int32) (l8 : Int32) (σ : J) : Option ((Int64 ⊕ Nat) × J) := if (σ.1 2 1 0) ≤ l8 then some (.inl l5, σ) else if q_in l8 20 = true then if Nat.blt (σ.2.2.2 3 0 l8.toNatClampNeg) 20 = true then (Tuple_isSeenBy n (σ.2.2.2 3 0 l8.toNatClampNeg) l1 σ).bind fun q3 => if q3.1 = 0 then JB_fold_b162 n k51 f l1 l2 l3 l4 l5 l7 l8 q3.2 else if q_in 0 3 = true then if Nat.blt (q3.2.2.2.2 17 l4 (0 : Int32).toNatClampNeg) (6 + 3 * n) = true then (JB_fitsAlone n f (q3.2.2.2.2 17 l4 (0 : Int32).toNatClampNeg) (σ.2.2.2 3 0 l8.toNatClampNeg) q3.2).bind fun q4 => if q4.1 = 0 then JB_fold_b162 n k51 f l1 l2 l3 l4 l5 l7 l8 q4.2 else if l3 = 0 then JB_fold_b162 n k51 f l1 l2 l3 l4 (l5 + 1) l7 l8 q4.2 else (Fields_kindAt n (σ.2.2.2 3 0 l8.toNatClampNeg) l2 q4.2).bind fun q5 => if q5.1 = 0 then (Fields_valueAt n (σ.2.2.2 3 0 l8.toNatClampNeg) l2 q5.2).bind fun q6 => if l7 = 0 then JB_fold_b157 n k51 f l1 l2 l3 l4 l8 q6.1 q6.2 else (JB_combine n l3 l5 q6.1 q6.2).bind fun q7 => JB_fold_b157 n k51 f l1 l2 l3 l4 l8 q7.1 q7.2 else JB_fold_b162 n k51 f l1 l2 l3 l4 l5 l7 l8 q5.2 else none else none else none else none
def JB_fold_L51 (n : Nat) : Nat → Int32 → Int32 → Int32 → Nat → Int64 → Int32 → Int32 → J → Option ((Int64 ⊕ Nat) × J)
  | 0 => fun _ _ _ _ _ _ _ _ => none
  | f + 1 => fun l1 l2 l3 l4 l5 l7 l8 σ => JB_fold_b51 n (JB_fold_L51 n f) f l1 l2 l3 l4 l5 l7 l8 σ
def JB_fold_b0 (n : Nat) (f : Nat) (l1 : Int32) (l2 : Int32) (l3 : Int32) (σ : J) : Option ((Int64 ⊕ Nat) × J) := (JB_readySession n l1 σ).bind fun q1 => (match q1.1 with | .inl r1 => if Nat.blt r1 (0 + n) = true then (Session_hasPatterns n f r1 1 q1.2).bind fun q2 => if q2.1 = 0 then JB_fold_b34 n f q2.2 else if l2 < 0 then JB_fold_b34 n f q2.2 else if 4 ≤ l2 then JB_fold_b34 n f q2.2 else if l3 < 0 then JB_fold_b34 n f q2.2 else if l3 ≤ 3 then JB_fold_L51 n f l1 l2 l3 r1 0 0 0 q2.2 else JB_fold_b34 n f q2.2 else none | .inr k0 => some (.inr k0, q1.2))
def JB_fold (n : Nat) (f : Nat) (x1 : Int32) (x2 : Int32) (x3 : Int32) (σ : J) : Option ((Int64 ⊕ Nat) × J) := JB_fold_b0 n f x1 x2 x3 σ
theorem JB_fold_b34_e {n : Nat} {r0 : (Int64 ⊕ Nat) × J} {f : Nat} {σ : J} (h : JB_fold_b34 n f σ = some r0) : q_ex q_pr n 4 12 34 (q_L []) [] σ (JB_fold_r r0) := by
  unfold JB_fold_b34 at h
  cases h
  exact ⟨1, rfl⟩
theorem JB_fold_b162_e {n : Nat} {r0 : (Int64 ⊕ Nat) × J} {k51 : Int32 → Int32 → Int32 → Nat → Int64 → Int32 → Int32 → J → Option ((Int64 ⊕ Nat) × J)} {f : Nat} {l1 : Int32} {l2 : Int32} {l3 : Int32} {l4 : Nat} {l5 : Int64} {l7 : Int32} {l8 : Int32} {σ : J} (hk51 : ∀ {l1 : Int32} {l2 : Int32} {l3 : Int32} {l4 : Nat} {l5 : Int64} {l7 : Int32} {l8 : Int32} {σ : J}, k51 l1 l2 l3 l4 l5 l7 l8 σ = some r0 → q_ex q_pr n 4 12 51 (q_L [(0, .inr (.inr (some (0, 0)))), (1, .inl l1), (2, .inl l2), (3, .inl l3), (4, .inr (.inr (some (16, l4)))), (5, .inr (.inl l5)), (7, .inl l7), (8, .inl l8)]) [] σ (JB_fold_r r0)) (h : JB_fold_b162 n k51 f l1 l2 l3 l4 l5 l7 l8 σ = some r0) : q_ex q_pr n 4 12 162 (q_L [(0, .inr (.inr (some (0, 0)))), (1, .inl l1), (2, .inl l2), (3, .inl l3), (4, .inr (.inr (some (16, l4)))), (5, .inr (.inl l5)), (7, .inl l7), (8, .inl l8)]) [] σ (JB_fold_r r0) := by
  unfold JB_fold_b162 at h
  refine q_ex_go 2 (pc' := 51) (L' := (q_s1 (q_L [(0, .inr (.inr (some (0, 0)))), (1, .inl l1), (2, .inl l2), (3, .inl l3), (4, .inr (.inr (some (16, l4)))), (5, .inr (.inl l5)), (7, .inl l7), (8, .inl l8)]) 8 (.inl (l8 + 1)))) (st' := []) (σ' := σ) (fun _ => rfl) ?_
  exact q_ex_ll (hk51 h) ⟨rfl, rfl, rfl, rfl, rfl, rfl, rfl, rfl, trivial⟩
theorem JB_fold_b157_e {n : Nat} {r0 : (Int64 ⊕ Nat) × J} {k51 : Int32 → Int32 → Int32 → Nat → Int64 → Int32 → Int32 → J → Option ((Int64 ⊕ Nat) × J)} {f : Nat} {l1 : Int32} {l2 : Int32} {l3 : Int32} {l4 : Nat} {l8 : Int32} {s0 : Int64} {σ : J} (hk51 : ∀ {l1 : Int32} {l2 : Int32} {l3 : Int32} {l4 : Nat} {l5 : Int64} {l7 : Int32} {l8 : Int32} {σ : J}, k51 l1 l2 l3 l4 l5 l7 l8 σ = some r0 → q_ex q_pr n 4 12 51 (q_L [(0, .inr (.inr (some (0, 0)))), (1, .inl l1), (2, .inl l2), (3, .inl l3), (4, .inr (.inr (some (16, l4)))), (5, .inr (.inl l5)), (7, .inl l7), (8, .inl l8)]) [] σ (JB_fold_r r0)) (h : JB_fold_b157 n k51 f l1 l2 l3 l4 l8 s0 σ = some r0) : q_ex q_pr n 4 12 157 (q_L [(0, .inr (.inr (some (0, 0)))), (1, .inl l1), (2, .inl l2), (3, .inl l3), (4, .inr (.inr (some (16, l4)))), (8, .inl l8)]) [.inr (.inl s0)] σ (JB_fold_r r0) := by
  unfold JB_fold_b157 at h
  refine q_ex_go 3 (pc' := 162) (L' := (q_s1 (q_s2 (q_L [(0, .inr (.inr (some (0, 0)))), (1, .inl l1), (2, .inl l2), (3, .inl l3), (4, .inr (.inr (some (16, l4)))), (8, .inl l8)]) 5 (.inr (.inl s0))) 7 (.inl 1))) (st' := []) (σ' := σ) (fun _ => rfl) ?_
  exact q_ex_ll (JB_fold_b162_e hk51 h) ⟨rfl, rfl, rfl, rfl, rfl, rfl, rfl, rfl, trivial⟩
theorem JB_fold_b51_e {n : Nat} {r0 : (Int64 ⊕ Nat) × J} {k51 : Int32 → Int32 → Int32 → Nat → Int64 → Int32 → Int32 → J → Option ((Int64 ⊕ Nat) × J)} {f : Nat} {l1 : Int32} {l2 : Int32} {l3 : Int32} {l4 : Nat} {l5 : Int64} {l7 : Int32} {l8 : Int32} {σ : J} (hk51 : ∀ {l1 : Int32} {l2 : Int32} {l3 : Int32} {l4 : Nat} {l5 : Int64} {l7 : Int32} {l8 : Int32} {σ : J}, k51 l1 l2 l3 l4 l5 l7 l8 σ = some r0 → q_ex q_pr n 4 12 51 (q_L [(0, .inr (.inr (some (0, 0)))), (1, .inl l1), (2, .inl l2), (3, .inl l3), (4, .inr (.inr (some (16, l4)))), (5, .inr (.inl l5)), (7, .inl l7), (8, .inl l8)]) [] σ (JB_fold_r r0)) (h : JB_fold_b51 n k51 f l1 l2 l3 l4 l5 l7 l8 σ = some r0) : q_ex q_pr n 4 12 51 (q_L [(0, .inr (.inr (some (0, 0)))), (1, .inl l1), (2, .inl l2), (3, .inl l3), (4, .inr (.inr (some (16, l4)))), (5, .inr (.inl l5)), (7, .inl l7), (8, .inl l8)]) [] σ (JB_fold_r r0) := by
  unfold JB_fold_b51 at h
  refine q_ex_br 5 (c := (σ.1 2 1 0) ≤ l8) (pc1 := 168) (pc2 := 63) (L' := (q_L [(0, .inr (.inr (some (0, 0)))), (1, .inl l1), (2, .inl l2), (3, .inl l3), (4, .inr (.inr (some (16, l4)))), (5, .inr (.inl l5)), (7, .inl l7), (8, .inl l8)])) (st' := []) (σ' := σ) (fun _ => rfl) (fun hc => ?_) (fun hc => ?_)
  · rw [if_pos hc] at h
    refine q_ex_go 1 (pc' := 170) (L' := (q_L [(0, .inr (.inr (some (0, 0)))), (1, .inl l1), (2, .inl l2), (3, .inl l3), (4, .inr (.inr (some (16, l4)))), (5, .inr (.inl l5)), (7, .inl l7), (8, .inl l8)])) (st' := [.inr (.inl l5)]) (σ' := σ) (fun _ => rfl) ?_
    cases h
    exact ⟨1, rfl⟩
  · rw [if_neg hc] at h
    refine q_by h (fun hz h => ?_)
    refine q_by h (fun hy h => ?_)
    refine q_ex_g2 5 (pc' := 73) (L' := (q_L [(0, .inr (.inr (some (0, 0)))), (1, .inl l1), (2, .inl l2), (3, .inl l3), (4, .inr (.inr (some (16, l4)))), (5, .inr (.inl l5)), (7, .inl l7), (8, .inl l8)])) (st' := [.inr (.inr (some (4, σ.2.2.2 3 0 l8.toNatClampNeg)))]) (σ' := σ) (fun _ => rfl) hz hy ?_
    obtain ⟨q3, hq3, h⟩ := Option.bind_eq_some_iff.mp h
    refine q_ex_ca 4 (k1 := 73) (vs := [.inr (.inr (some (4, σ.2.2.2 3 0 l8.toNatClampNeg))), .inl l1]) (pc' := 81) (L' := (q_s1 (q_L [(0, .inr (.inr (some (0, 0)))), (1, .inl l1), (2, .inl l2), (3, .inl l3), (4, .inr (.inr (some (16, l4)))), (5, .inr (.inl l5)), (7, .inl l7), (8, .inl l8)]) 9 (.inr (.inr (some (4, σ.2.2.2 3 0 l8.toNatClampNeg)))))) (rest := []) (σ' := σ) (fun _ => rfl) (q_ex_dd (Tuple_isSeenBy_e hq3) (Nat.le_of_ble_eq_true rfl)) rfl ?_
    refine q_ex_br 1 (c := q3.1 = 0) (pc1 := 162) (pc2 := 84) (L' := (q_s1 (q_L [(0, .inr (.inr (some (0, 0)))), (1, .inl l1), (2, .inl l2), (3, .inl l3), (4, .inr (.inr (some (16, l4)))), (5, .inr (.inl l5)), (7, .inl l7), (8, .inl l8)]) 9 (.inr (.inr (some (4, σ.2.2.2 3 0 l8.toNatClampNeg)))))) (st' := []) (σ' := q3.2) (fun _ => rfl) (fun hc => ?_) (fun hc => ?_)
    · rw [if_pos hc] at h
      exact q_ex_ll (JB_fold_b162_e hk51 h) ⟨rfl, rfl, rfl, rfl, rfl, rfl, rfl, rfl, trivial⟩
    · rw [if_neg hc] at h
      refine q_by h (fun hz h => ?_)
      refine q_by h (fun hy h => ?_)
      refine q_ex_g2 5 (pc' := 92) (L' := (q_s1 (q_L [(0, .inr (.inr (some (0, 0)))), (1, .inl l1), (2, .inl l2), (3, .inl l3), (4, .inr (.inr (some (16, l4)))), (5, .inr (.inl l5)), (7, .inl l7), (8, .inl l8)]) 9 (.inr (.inr (some (4, σ.2.2.2 3 0 l8.toNatClampNeg)))))) (st' := [.inr (.inr (some (8, q3.2.2.2.2 17 l4 (0 : Int32).toNatClampNeg))), .inr (.inr (some (0, 0)))]) (σ' := q3.2) (fun _ => rfl) hz hy ?_
      obtain ⟨q4, hq4, h⟩ := Option.bind_eq_some_iff.mp h
      refine q_ex_ca 2 (k1 := 11) (vs := [.inr (.inr (some (0, 0))), .inr (.inr (some (8, q3.2.2.2.2 17 l4 (0 : Int32).toNatClampNeg))), .inr (.inr (some (4, σ.2.2.2 3 0 l8.toNatClampNeg)))]) (pc' := 97) (L' := (q_s1 (q_L [(0, .inr (.inr (some (0, 0)))), (1, .inl l1), (2, .inl l2), (3, .inl l3), (4, .inr (.inr (some (16, l4)))), (5, .inr (.inl l5)), (7, .inl l7), (8, .inl l8)]) 9 (.inr (.inr (some (4, σ.2.2.2 3 0 l8.toNatClampNeg)))))) (rest := []) (σ' := q3.2) (fun _ => rfl) (q_ex_dd (JB_fitsAlone_e hq4) (Nat.le_of_ble_eq_true rfl)) rfl ?_
      refine q_ex_br 1 (c := q4.1 = 0) (pc1 := 100) (pc2 := 103) (L' := (q_s1 (q_L [(0, .inr (.inr (some (0, 0)))), (1, .inl l1), (2, .inl l2), (3, .inl l3), (4, .inr (.inr (some (16, l4)))), (5, .inr (.inl l5)), (7, .inl l7), (8, .inl l8)]) 9 (.inr (.inr (some (4, σ.2.2.2 3 0 l8.toNatClampNeg)))))) (st' := []) (σ' := q4.2) (fun _ => rfl) (fun hc => ?_) (fun hc => ?_)
      · rw [if_pos hc] at h
        refine q_ex_go 1 (pc' := 162) (L' := (q_s1 (q_L [(0, .inr (.inr (some (0, 0)))), (1, .inl l1), (2, .inl l2), (3, .inl l3), (4, .inr (.inr (some (16, l4)))), (5, .inr (.inl l5)), (7, .inl l7), (8, .inl l8)]) 9 (.inr (.inr (some (4, σ.2.2.2 3 0 l8.toNatClampNeg)))))) (st' := []) (σ' := q4.2) (fun _ => rfl) ?_
        exact q_ex_ll (JB_fold_b162_e hk51 h) ⟨rfl, rfl, rfl, rfl, rfl, rfl, rfl, rfl, trivial⟩
      · rw [if_neg hc] at h
        refine q_ex_br 2 (c := l3 = 0) (pc1 := 107) (pc2 := 116) (L' := (q_s1 (q_L [(0, .inr (.inr (some (0, 0)))), (1, .inl l1), (2, .inl l2), (3, .inl l3), (4, .inr (.inr (some (16, l4)))), (5, .inr (.inl l5)), (7, .inl l7), (8, .inl l8)]) 9 (.inr (.inr (some (4, σ.2.2.2 3 0 l8.toNatClampNeg)))))) (st' := []) (σ' := q4.2) (fun _ => rfl) (fun hc => ?_) (fun hc => ?_)
        · rw [if_pos hc] at h
          refine q_ex_go 5 (pc' := 162) (L' := (q_s2 (q_s1 (q_L [(0, .inr (.inr (some (0, 0)))), (1, .inl l1), (2, .inl l2), (3, .inl l3), (4, .inr (.inr (some (16, l4)))), (5, .inr (.inl l5)), (7, .inl l7), (8, .inl l8)]) 9 (.inr (.inr (some (4, σ.2.2.2 3 0 l8.toNatClampNeg))))) 5 (.inr (.inl (l5 + 1))))) (st' := []) (σ' := q4.2) (fun _ => rfl) ?_
          exact q_ex_ll (JB_fold_b162_e hk51 h) ⟨rfl, rfl, rfl, rfl, rfl, rfl, rfl, rfl, trivial⟩
        · rw [if_neg hc] at h
          obtain ⟨q5, hq5, h⟩ := Option.bind_eq_some_iff.mp h
          refine q_ex_ca 4 (k1 := 46) (vs := [.inr (.inr (some (5, (σ.2.2.2 3 0 l8.toNatClampNeg)))), .inl l2]) (pc' := 125) (L' := (q_s1 (q_L [(0, .inr (.inr (some (0, 0)))), (1, .inl l1), (2, .inl l2), (3, .inl l3), (4, .inr (.inr (some (16, l4)))), (5, .inr (.inl l5)), (7, .inl l7), (8, .inl l8)]) 9 (.inr (.inr (some (4, σ.2.2.2 3 0 l8.toNatClampNeg)))))) (rest := []) (σ' := q4.2) (fun _ => rfl) (q_ex_dd (Fields_kindAt_e hq5) (Nat.le_of_ble_eq_true rfl)) rfl ?_
          refine q_ex_br 1 (c := q5.1 = 0) (pc1 := 128) (pc2 := 162) (L' := (q_s1 (q_L [(0, .inr (.inr (some (0, 0)))), (1, .inl l1), (2, .inl l2), (3, .inl l3), (4, .inr (.inr (some (16, l4)))), (5, .inr (.inl l5)), (7, .inl l7), (8, .inl l8)]) 9 (.inr (.inr (some (4, σ.2.2.2 3 0 l8.toNatClampNeg)))))) (st' := []) (σ' := q5.2) (fun _ => rfl) (fun hc => ?_) (fun hc => ?_)
          · rw [if_pos hc] at h
            obtain ⟨q6, hq6, h⟩ := Option.bind_eq_some_iff.mp h
            refine q_ex_ca 4 (k1 := 47) (vs := [.inr (.inr (some (5, (σ.2.2.2 3 0 l8.toNatClampNeg)))), .inl l2]) (pc' := 137) (L' := (q_s1 (q_L [(0, .inr (.inr (some (0, 0)))), (1, .inl l1), (2, .inl l2), (3, .inl l3), (4, .inr (.inr (some (16, l4)))), (5, .inr (.inl l5)), (7, .inl l7), (8, .inl l8)]) 9 (.inr (.inr (some (4, σ.2.2.2 3 0 l8.toNatClampNeg)))))) (rest := []) (σ' := q5.2) (fun _ => rfl) (q_ex_dd (Fields_valueAt_e hq6) (Nat.le_of_ble_eq_true rfl)) rfl ?_
            refine q_ex_br 3 (c := l7 = 0) (pc1 := 155) (pc2 := 144) (L' := (q_s2 (q_s1 (q_L [(0, .inr (.inr (some (0, 0)))), (1, .inl l1), (2, .inl l2), (3, .inl l3), (4, .inr (.inr (some (16, l4)))), (5, .inr (.inl l5)), (7, .inl l7), (8, .inl l8)]) 9 (.inr (.inr (some (4, σ.2.2.2 3 0 l8.toNatClampNeg))))) 10 (.inr (.inl q6.1)))) (st' := []) (σ' := q6.2) (fun _ => rfl) (fun hc => ?_) (fun hc => ?_)
            · rw [if_pos hc] at h
              refine q_ex_go 1 (pc' := 157) (L' := (q_s2 (q_s1 (q_L [(0, .inr (.inr (some (0, 0)))), (1, .inl l1), (2, .inl l2), (3, .inl l3), (4, .inr (.inr (some (16, l4)))), (5, .inr (.inl l5)), (7, .inl l7), (8, .inl l8)]) 9 (.inr (.inr (some (4, σ.2.2.2 3 0 l8.toNatClampNeg))))) 10 (.inr (.inl q6.1)))) (st' := [.inr (.inl q6.1)]) (σ' := q6.2) (fun _ => rfl) ?_
              exact q_ex_ll (JB_fold_b157_e hk51 h) ⟨rfl, rfl, rfl, rfl, rfl, rfl, trivial⟩
            · rw [if_neg hc] at h
              obtain ⟨q7, hq7, h⟩ := Option.bind_eq_some_iff.mp h
              refine q_ex_ca 4 (k1 := 4) (vs := [.inl l3, .inr (.inl l5), .inr (.inl q6.1)]) (pc' := 152) (L' := (q_s2 (q_s1 (q_L [(0, .inr (.inr (some (0, 0)))), (1, .inl l1), (2, .inl l2), (3, .inl l3), (4, .inr (.inr (some (16, l4)))), (5, .inr (.inl l5)), (7, .inl l7), (8, .inl l8)]) 9 (.inr (.inr (some (4, σ.2.2.2 3 0 l8.toNatClampNeg))))) 10 (.inr (.inl q6.1)))) (rest := []) (σ' := q6.2) (fun _ => rfl) (q_ex_dd (JB_combine_e hq7) (Nat.le_of_ble_eq_true rfl)) rfl ?_
              refine q_ex_go 1 (pc' := 157) (L' := (q_s2 (q_s1 (q_L [(0, .inr (.inr (some (0, 0)))), (1, .inl l1), (2, .inl l2), (3, .inl l3), (4, .inr (.inr (some (16, l4)))), (5, .inr (.inl l5)), (7, .inl l7), (8, .inl l8)]) 9 (.inr (.inr (some (4, σ.2.2.2 3 0 l8.toNatClampNeg))))) 10 (.inr (.inl q6.1)))) (st' := [.inr (.inl q7.1)]) (σ' := q7.2) (fun _ => rfl) ?_
              exact q_ex_ll (JB_fold_b157_e hk51 h) ⟨rfl, rfl, rfl, rfl, rfl, rfl, trivial⟩
          · rw [if_neg hc] at h
            exact q_ex_ll (JB_fold_b162_e hk51 h) ⟨rfl, rfl, rfl, rfl, rfl, rfl, rfl, rfl, trivial⟩
theorem JB_fold_L51_e {n : Nat} {r0 : (Int64 ⊕ Nat) × J} (f : Nat) : ∀ {l1 : Int32} {l2 : Int32} {l3 : Int32} {l4 : Nat} {l5 : Int64} {l7 : Int32} {l8 : Int32} {σ : J}, JB_fold_L51 n f l1 l2 l3 l4 l5 l7 l8 σ = some r0 → q_ex q_pr n 4 12 51 (q_L [(0, .inr (.inr (some (0, 0)))), (1, .inl l1), (2, .inl l2), (3, .inl l3), (4, .inr (.inr (some (16, l4)))), (5, .inr (.inl l5)), (7, .inl l7), (8, .inl l8)]) [] σ (JB_fold_r r0) := by
  induction f with
  | zero => intro l1 l2 l3 l4 l5 l7 l8 σ h; cases h
  | succ f ih =>
    intro l1 l2 l3 l4 l5 l7 l8 σ h
    exact JB_fold_b51_e (f := f)  (fun h => ih h) h
theorem JB_fold_b0_e {n : Nat} {r0 : (Int64 ⊕ Nat) × J} {f : Nat} {l1 : Int32} {l2 : Int32} {l3 : Int32} {σ : J} (h : JB_fold_b0 n f l1 l2 l3 σ = some r0) : q_ex q_pr n 4 12 0 (q_L [(0, .inr (.inr (some (0, 0)))), (1, .inl l1), (2, .inl l2), (3, .inl l3)]) [] σ (JB_fold_r r0) := by
  unfold JB_fold_b0 at h
  obtain ⟨q1, hq1, h⟩ := Option.bind_eq_some_iff.mp h
  obtain ⟨q1, σ1⟩ := q1
  cases q1 with
  | inr k0 =>
    cases h
    exact q_ex_cx 3 (k1 := 24) (vs := [.inr (.inr (some (0, 0))), .inl l1]) (pc' := 5) (L' := (q_L [(0, .inr (.inr (some (0, 0)))), (1, .inl l1), (2, .inl l2), (3, .inl l3)])) (rest := []) (σ' := σ) (fun _ => rfl) (q_ex_dd (JB_readySession_e hq1) (Nat.le_of_ble_eq_true rfl))
  | inl r1 =>
    refine q_by h (fun hy h => ?_)
    refine q_ex_ca 3 (k1 := 24) (vs := [.inr (.inr (some (0, 0))), .inl l1]) (pc' := 5) (L' := (q_L [(0, .inr (.inr (some (0, 0)))), (1, .inl l1), (2, .inl l2), (3, .inl l3)])) (rest := []) (σ' := σ) (fun _ => rfl) (q_ex_dd (JB_readySession_e hq1) (Nat.le_of_ble_eq_true rfl)) hy ?_
    obtain ⟨q2, hq2, h⟩ := Option.bind_eq_some_iff.mp h
    refine q_ex_ca 4 (k1 := 68) (vs := [.inr (.inr (some (16, r1))), .inl 1]) (pc' := 13) (L' := (q_s1 (q_L [(0, .inr (.inr (some (0, 0)))), (1, .inl l1), (2, .inl l2), (3, .inl l3)]) 4 (.inr (.inr (some (16, r1)))))) (rest := []) (σ' := σ1) (fun _ => rfl) (q_ex_dd (Session_hasPatterns_e hq2) (Nat.le_of_ble_eq_true rfl)) rfl ?_
    refine q_ex_br 1 (c := q2.1 = 0) (pc1 := 34) (pc2 := 16) (L' := (q_s1 (q_L [(0, .inr (.inr (some (0, 0)))), (1, .inl l1), (2, .inl l2), (3, .inl l3)]) 4 (.inr (.inr (some (16, r1)))))) (st' := []) (σ' := q2.2) (fun _ => rfl) (fun hc => ?_) (fun hc => ?_)
    · rw [if_pos hc] at h
      exact q_ex_ll (JB_fold_b34_e h) trivial
    · rw [if_neg hc] at h
      refine q_ex_br 2 (c := l2 < 0) (pc1 := 34) (pc2 := 20) (L' := (q_s1 (q_L [(0, .inr (.inr (some (0, 0)))), (1, .inl l1), (2, .inl l2), (3, .inl l3)]) 4 (.inr (.inr (some (16, r1)))))) (st' := []) (σ' := q2.2) (fun _ => rfl) (fun hc => ?_) (fun hc => ?_)
      · rw [if_pos hc] at h
        exact q_ex_ll (JB_fold_b34_e h) trivial
      · rw [if_neg hc] at h
        refine q_ex_br 3 (c := 4 ≤ l2) (pc1 := 34) (pc2 := 25) (L' := (q_s1 (q_L [(0, .inr (.inr (some (0, 0)))), (1, .inl l1), (2, .inl l2), (3, .inl l3)]) 4 (.inr (.inr (some (16, r1)))))) (st' := []) (σ' := q2.2) (fun _ => rfl) (fun hc => ?_) (fun hc => ?_)
        · rw [if_pos hc] at h
          exact q_ex_ll (JB_fold_b34_e h) trivial
        · rw [if_neg hc] at h
          refine q_ex_br 2 (c := l3 < 0) (pc1 := 34) (pc2 := 29) (L' := (q_s1 (q_L [(0, .inr (.inr (some (0, 0)))), (1, .inl l1), (2, .inl l2), (3, .inl l3)]) 4 (.inr (.inr (some (16, r1)))))) (st' := []) (σ' := q2.2) (fun _ => rfl) (fun hc => ?_) (fun hc => ?_)
          · rw [if_pos hc] at h
            exact q_ex_ll (JB_fold_b34_e h) trivial
          · rw [if_neg hc] at h
            refine q_ex_br 3 (c := l3 ≤ 3) (pc1 := 42) (pc2 := 34) (L' := (q_s1 (q_L [(0, .inr (.inr (some (0, 0)))), (1, .inl l1), (2, .inl l2), (3, .inl l3)]) 4 (.inr (.inr (some (16, r1)))))) (st' := []) (σ' := q2.2) (fun _ => rfl) (fun hc => ?_) (fun hc => ?_)
            · rw [if_pos hc] at h
              refine q_ex_go 6 (pc' := 51) (L' := (q_s1 (q_s1 (q_s2 (q_s1 (q_L [(0, .inr (.inr (some (0, 0)))), (1, .inl l1), (2, .inl l2), (3, .inl l3)]) 4 (.inr (.inr (some (16, r1))))) 5 (.inr (.inl 0))) 7 (.inl 0)) 8 (.inl 0))) (st' := []) (σ' := q2.2) (fun _ => rfl) ?_
              exact q_ex_ll (JB_fold_L51_e f h) ⟨rfl, rfl, rfl, rfl, rfl, rfl, rfl, rfl, trivial⟩
            · rw [if_neg hc] at h
              exact q_ex_ll (JB_fold_b34_e h) trivial
theorem JB_fold_e {n : Nat} {r0 : (Int64 ⊕ Nat) × J} {f : Nat} {x1 : Int32} {x2 : Int32} {x3 : Int32} {σ : J} (h : JB_fold n f x1 x2 x3 σ = some r0) : q_ex q_pr n 4 12 0 (q_args 0 [.inr (.inr (some (0, 0))), .inl x1, .inl x2, .inl x3]) [] σ (JB_fold_r r0) := q_ex_ll (JB_fold_b0_e h) ⟨rfl, rfl, rfl, rfl, trivial⟩
def JB_forget_r : (Int32 ⊕ Nat) × J → Res := fun q => ((match q.1 with | .inl r => .inl (some (.inl r)) | .inr e => .inr e), q.2)
-- 13: JB_forget
def JB_forget_b16 (n : Nat) (σ : J) : Option ((Int32 ⊕ Nat) × J) := some (.inr 3, σ)
def JB_forget_b48 (n : Nat) (s0 : Int32) (σ : J) : Option ((Int32 ⊕ Nat) × J) := some (.inl s0, σ)
def JB_forget_b0 (n : Nat) (l1 : Int32) (l2 : Int32) (σ : J) : Option ((Int32 ⊕ Nat) × J) := (JB_readySession n l1 σ).bind fun q1 => (match q1.1 with | .inl r1 => if Nat.blt r1 (0 + n) = true then if l2 < (-1) then JB_forget_b16 n q1.2 else if l2 < 3 then if l2 = (-1) then (Fields_empty n (20 + r1) q1.2).bind fun q2 => JB_forget_b48 n q2.1 q2.2 else if q_in l2 3 = true then if Nat.blt (q1.2.2.2.2 17 r1 l2.toNatClampNeg) (6 + 3 * n) = true then (Pattern_empty n (q1.2.2.2.2 17 r1 l2.toNatClampNeg) q1.2).bind fun q3 => JB_forget_b48 n q3.1 q3.2 else none else none else JB_forget_b16 n q1.2 else none | .inr k0 => some (.inr k0, q1.2))
def JB_forget (n : Nat) (x1 : Int32) (x2 : Int32) (σ : J) : Option ((Int32 ⊕ Nat) × J) := JB_forget_b0 n x1 x2 σ
theorem JB_forget_b16_e {n : Nat} {r0 : (Int32 ⊕ Nat) × J} {σ : J} (h : JB_forget_b16 n σ = some r0) : q_ex q_pr n 2 13 16 (q_L []) [] σ (JB_forget_r r0) := by
  unfold JB_forget_b16 at h
  cases h
  exact ⟨1, rfl⟩
theorem JB_forget_b48_e {n : Nat} {r0 : (Int32 ⊕ Nat) × J} {s0 : Int32} {σ : J} (h : JB_forget_b48 n s0 σ = some r0) : q_ex q_pr n 2 13 48 (q_L []) [.inl s0] σ (JB_forget_r r0) := by
  unfold JB_forget_b48 at h
  cases h
  exact ⟨1, rfl⟩
theorem JB_forget_b0_e {n : Nat} {r0 : (Int32 ⊕ Nat) × J} {l1 : Int32} {l2 : Int32} {σ : J} (h : JB_forget_b0 n l1 l2 σ = some r0) : q_ex q_pr n 2 13 0 (q_L [(0, .inr (.inr (some (0, 0)))), (1, .inl l1), (2, .inl l2)]) [] σ (JB_forget_r r0) := by
  unfold JB_forget_b0 at h
  obtain ⟨q1, hq1, h⟩ := Option.bind_eq_some_iff.mp h
  obtain ⟨q1, σ1⟩ := q1
  cases q1 with
  | inr k0 =>
    cases h
    exact q_ex_cx 3 (k1 := 24) (vs := [.inr (.inr (some (0, 0))), .inl l1]) (pc' := 5) (L' := (q_L [(0, .inr (.inr (some (0, 0)))), (1, .inl l1), (2, .inl l2)])) (rest := []) (σ' := σ) (fun _ => rfl) (q_ex_dd (JB_readySession_e hq1) (Nat.le_of_ble_eq_true rfl))
  | inl r1 =>
    refine q_by h (fun hy h => ?_)
    refine q_ex_ca 3 (k1 := 24) (vs := [.inr (.inr (some (0, 0))), .inl l1]) (pc' := 5) (L' := (q_L [(0, .inr (.inr (some (0, 0)))), (1, .inl l1), (2, .inl l2)])) (rest := []) (σ' := σ) (fun _ => rfl) (q_ex_dd (JB_readySession_e hq1) (Nat.le_of_ble_eq_true rfl)) hy ?_
    refine q_ex_br 4 (c := l2 < (-1)) (pc1 := 16) (pc2 := 11) (L' := (q_s1 (q_L [(0, .inr (.inr (some (0, 0)))), (1, .inl l1), (2, .inl l2)]) 3 (.inr (.inr (some (16, r1)))))) (st' := []) (σ' := σ1) (fun _ => rfl) (fun hc => ?_) (fun hc => ?_)
    · rw [if_pos hc] at h
      exact q_ex_ll (JB_forget_b16_e h) trivial
    · rw [if_neg hc] at h
      refine q_ex_br 3 (c := l2 < 3) (pc1 := 24) (pc2 := 16) (L' := (q_s1 (q_L [(0, .inr (.inr (some (0, 0)))), (1, .inl l1), (2, .inl l2)]) 3 (.inr (.inr (some (16, r1)))))) (st' := []) (σ' := σ1) (fun _ => rfl) (fun hc => ?_) (fun hc => ?_)
      · rw [if_pos hc] at h
        refine q_ex_br 3 (c := l2 = (-1)) (pc1 := 29) (pc2 := 39) (L' := (q_s1 (q_L [(0, .inr (.inr (some (0, 0)))), (1, .inl l1), (2, .inl l2)]) 3 (.inr (.inr (some (16, r1)))))) (st' := []) (σ' := σ1) (fun _ => rfl) (fun hc => ?_) (fun hc => ?_)
        · rw [if_pos hc] at h
          obtain ⟨q2, hq2, h⟩ := Option.bind_eq_some_iff.mp h
          refine q_ex_ca 3 (k1 := 45) (vs := [.inr (.inr (some (5, (20 + r1))))]) (pc' := 36) (L' := (q_s1 (q_L [(0, .inr (.inr (some (0, 0)))), (1, .inl l1), (2, .inl l2)]) 3 (.inr (.inr (some (16, r1)))))) (rest := []) (σ' := σ1) (fun _ => rfl) (q_ex_dd (Fields_empty_e hq2) (Nat.le_of_ble_eq_true rfl)) rfl ?_
          refine q_ex_go 1 (pc' := 48) (L' := (q_s1 (q_L [(0, .inr (.inr (some (0, 0)))), (1, .inl l1), (2, .inl l2)]) 3 (.inr (.inr (some (16, r1)))))) (st' := [.inl q2.1]) (σ' := q2.2) (fun _ => rfl) ?_
          exact q_ex_ll (JB_forget_b48_e h) trivial
        · rw [if_neg hc] at h
          refine q_by h (fun hz h => ?_)
          refine q_by h (fun hy h => ?_)
          refine q_ex_g2 4 (pc' := 45) (L' := (q_s1 (q_L [(0, .inr (.inr (some (0, 0)))), (1, .inl l1), (2, .inl l2)]) 3 (.inr (.inr (some (16, r1)))))) (st' := [.inr (.inr (some (8, σ1.2.2.2 17 r1 l2.toNatClampNeg)))]) (σ' := σ1) (fun _ => rfl) hz hy ?_
          obtain ⟨q3, hq3, h⟩ := Option.bind_eq_some_iff.mp h
          refine q_ex_ca 1 (k1 := 63) (vs := [.inr (.inr (some (8, σ1.2.2.2 17 r1 l2.toNatClampNeg)))]) (pc' := 48) (L' := (q_s1 (q_L [(0, .inr (.inr (some (0, 0)))), (1, .inl l1), (2, .inl l2)]) 3 (.inr (.inr (some (16, r1)))))) (rest := []) (σ' := σ1) (fun _ => rfl) (q_ex_dd (Pattern_empty_e hq3) (Nat.le_of_ble_eq_true rfl)) rfl ?_
          exact q_ex_ll (JB_forget_b48_e h) trivial
      · rw [if_neg hc] at h
        exact q_ex_ll (JB_forget_b16_e h) trivial
theorem JB_forget_e {n : Nat} {r0 : (Int32 ⊕ Nat) × J} {x1 : Int32} {x2 : Int32} {σ : J} (h : JB_forget n x1 x2 σ = some r0) : q_ex q_pr n 2 13 0 (q_args 0 [.inr (.inr (some (0, 0))), .inl x1, .inl x2]) [] σ (JB_forget_r r0) := q_ex_ll (JB_forget_b0_e h) ⟨rfl, rfl, rfl, trivial⟩
def JB_form_r : (Int32 ⊕ Nat) × J → Res := fun q => ((match q.1 with | .inl r => .inl (some (.inl r)) | .inr e => .inr e), q.2)
-- 14: JB_form
def JB_form_b25 (n : Nat) (σ : J) : Option ((Int32 ⊕ Nat) × J) := some (.inr 3, σ)
def JB_form_b0 (n : Nat) (l1 : Int32) (l2 : Int32) (l3 : Int32) (l4 : Int64) (l6 : Int64) (σ : J) : Option ((Int32 ⊕ Nat) × J) := (JB_readySession n l1 σ).bind fun q1 => (match q1.1 with | .inl r1 => if Nat.blt r1 (0 + n) = true then if l2 < 0 then JB_form_b25 n q1.2 else if 3 ≤ l2 then JB_form_b25 n q1.2 else (Pattern_isForm n l3 l4 q1.2).bind fun q2 => if q2.1 = 0 then JB_form_b25 n q2.2 else if q_in l2 3 = true then if Nat.blt (q2.2.2.2.2 17 r1 l2.toNatClampNeg) (6 + 3 * n) = true then if (q2.2.1 8 0 (q2.2.2.2.2 17 r1 l2.toNatClampNeg)) < 4 then (Pattern_append n (q2.2.2.2.2 17 r1 l2.toNatClampNeg) l3 l4 l6 q2.2).bind fun q3 => some (.inl q3.1, q3.2) else some (.inr 4, q2.2) else none else none else none | .inr k0 => some (.inr k0, q1.2))
def JB_form (n : Nat) (x1 : Int32) (x2 : Int32) (x3 : Int32) (x4 : Int64) (x6 : Int64) (σ : J) : Option ((Int32 ⊕ Nat) × J) := JB_form_b0 n x1 x2 x3 x4 x6 σ
theorem JB_form_b25_e {n : Nat} {r0 : (Int32 ⊕ Nat) × J} {σ : J} (h : JB_form_b25 n σ = some r0) : q_ex q_pr n 2 14 25 (q_L []) [] σ (JB_form_r r0) := by
  unfold JB_form_b25 at h
  cases h
  exact ⟨1, rfl⟩
theorem JB_form_b0_e {n : Nat} {r0 : (Int32 ⊕ Nat) × J} {l1 : Int32} {l2 : Int32} {l3 : Int32} {l4 : Int64} {l6 : Int64} {σ : J} (h : JB_form_b0 n l1 l2 l3 l4 l6 σ = some r0) : q_ex q_pr n 2 14 0 (q_L [(0, .inr (.inr (some (0, 0)))), (1, .inl l1), (2, .inl l2), (3, .inl l3), (4, .inr (.inl l4)), (6, .inr (.inl l6))]) [] σ (JB_form_r r0) := by
  unfold JB_form_b0 at h
  obtain ⟨q1, hq1, h⟩ := Option.bind_eq_some_iff.mp h
  obtain ⟨q1, σ1⟩ := q1
  cases q1 with
  | inr k0 =>
    cases h
    exact q_ex_cx 3 (k1 := 24) (vs := [.inr (.inr (some (0, 0))), .inl l1]) (pc' := 5) (L' := (q_L [(0, .inr (.inr (some (0, 0)))), (1, .inl l1), (2, .inl l2), (3, .inl l3), (4, .inr (.inl l4)), (6, .inr (.inl l6))])) (rest := []) (σ' := σ) (fun _ => rfl) (q_ex_dd (JB_readySession_e hq1) (Nat.le_of_ble_eq_true rfl))
  | inl r1 =>
    refine q_by h (fun hy h => ?_)
    refine q_ex_ca 3 (k1 := 24) (vs := [.inr (.inr (some (0, 0))), .inl l1]) (pc' := 5) (L' := (q_L [(0, .inr (.inr (some (0, 0)))), (1, .inl l1), (2, .inl l2), (3, .inl l3), (4, .inr (.inl l4)), (6, .inr (.inl l6))])) (rest := []) (σ' := σ) (fun _ => rfl) (q_ex_dd (JB_readySession_e hq1) (Nat.le_of_ble_eq_true rfl)) hy ?_
    refine q_ex_br 3 (c := l2 < 0) (pc1 := 25) (pc2 := 11) (L' := (q_s1 (q_L [(0, .inr (.inr (some (0, 0)))), (1, .inl l1), (2, .inl l2), (3, .inl l3), (4, .inr (.inl l4)), (6, .inr (.inl l6))]) 8 (.inr (.inr (some (16, r1)))))) (st' := []) (σ' := σ1) (fun _ => rfl) (fun hc => ?_) (fun hc => ?_)
    · rw [if_pos hc] at h
      exact q_ex_ll (JB_form_b25_e h) trivial
    · rw [if_neg hc] at h
      refine q_ex_br 3 (c := 3 ≤ l2) (pc1 := 25) (pc2 := 16) (L' := (q_s1 (q_L [(0, .inr (.inr (some (0, 0)))), (1, .inl l1), (2, .inl l2), (3, .inl l3), (4, .inr (.inl l4)), (6, .inr (.inl l6))]) 8 (.inr (.inr (some (16, r1)))))) (st' := []) (σ' := σ1) (fun _ => rfl) (fun hc => ?_) (fun hc => ?_)
      · rw [if_pos hc] at h
        exact q_ex_ll (JB_form_b25_e h) trivial
      · rw [if_neg hc] at h
        obtain ⟨q2, hq2, h⟩ := Option.bind_eq_some_iff.mp h
        refine q_ex_ca 3 (k1 := 66) (vs := [.inl l3, .inr (.inl l4)]) (pc' := 22) (L' := (q_s1 (q_L [(0, .inr (.inr (some (0, 0)))), (1, .inl l1), (2, .inl l2), (3, .inl l3), (4, .inr (.inl l4)), (6, .inr (.inl l6))]) 8 (.inr (.inr (some (16, r1)))))) (rest := []) (σ' := σ1) (fun _ => rfl) (q_ex_dd (Pattern_isForm_e hq2) (Nat.le_of_ble_eq_true rfl)) rfl ?_
        refine q_ex_br 1 (c := q2.1 = 0) (pc1 := 25) (pc2 := 33) (L' := (q_s1 (q_L [(0, .inr (.inr (some (0, 0)))), (1, .inl l1), (2, .inl l2), (3, .inl l3), (4, .inr (.inl l4)), (6, .inr (.inl l6))]) 8 (.inr (.inr (some (16, r1)))))) (st' := []) (σ' := q2.2) (fun _ => rfl) (fun hc => ?_) (fun hc => ?_)
        · rw [if_pos hc] at h
          exact q_ex_ll (JB_form_b25_e h) trivial
        · rw [if_neg hc] at h
          refine q_by h (fun hz h => ?_)
          refine q_by h (fun hy h => ?_)
          refine q_ex_g2 4 (pc' := 40) (L' := (q_s1 (q_L [(0, .inr (.inr (some (0, 0)))), (1, .inl l1), (2, .inl l2), (3, .inl l3), (4, .inr (.inl l4)), (6, .inr (.inl l6))]) 8 (.inr (.inr (some (16, r1)))))) (st' := [.inr (.inr (some (8, q2.2.2.2.2 17 r1 l2.toNatClampNeg)))]) (σ' := q2.2) (fun _ => rfl) hz hy ?_
          refine q_ex_br 5 (c := (q2.2.1 8 0 (q2.2.2.2.2 17 r1 l2.toNatClampNeg)) < 4) (pc1 := 59) (pc2 := 51) (L' := (q_s1 (q_s1 (q_L [(0, .inr (.inr (some (0, 0)))), (1, .inl l1), (2, .inl l2), (3, .inl l3), (4, .inr (.inl l4)), (6, .inr (.inl l6))]) 8 (.inr (.inr (some (16, r1))))) 9 (.inr (.inr (some (8, q2.2.2.2.2 17 r1 l2.toNatClampNeg)))))) (st' := []) (σ' := q2.2) (fun _ => rfl) (fun hc => ?_) (fun hc => ?_)
          · rw [if_pos hc] at h
            obtain ⟨q3, hq3, h⟩ := Option.bind_eq_some_iff.mp h
            refine q_ex_ca 5 (k1 := 61) (vs := [.inr (.inr (some (8, q2.2.2.2.2 17 r1 l2.toNatClampNeg))), .inl l3, .inr (.inl l4), .inr (.inl l6)]) (pc' := 69) (L' := (q_s1 (q_s1 (q_L [(0, .inr (.inr (some (0, 0)))), (1, .inl l1), (2, .inl l2), (3, .inl l3), (4, .inr (.inl l4)), (6, .inr (.inl l6))]) 8 (.inr (.inr (some (16, r1))))) 9 (.inr (.inr (some (8, q2.2.2.2.2 17 r1 l2.toNatClampNeg)))))) (rest := []) (σ' := q2.2) (fun _ => rfl) (q_ex_dd (Pattern_append_e hq3) (Nat.le_of_ble_eq_true rfl)) rfl ?_
            cases h
            exact ⟨1, rfl⟩
          · rw [if_neg hc] at h
            cases h
            exact ⟨1, rfl⟩
theorem JB_form_e {n : Nat} {r0 : (Int32 ⊕ Nat) × J} {x1 : Int32} {x2 : Int32} {x3 : Int32} {x4 : Int64} {x6 : Int64} {σ : J} (h : JB_form n x1 x2 x3 x4 x6 σ = some r0) : q_ex q_pr n 2 14 0 (q_args 0 [.inr (.inr (some (0, 0))), .inl x1, .inl x2, .inl x3, .inr (.inl x4), .inr (.inl x6)]) [] σ (JB_form_r r0) := q_ex_ll (JB_form_b0_e h) ⟨rfl, rfl, rfl, rfl, rfl, rfl, trivial⟩
def JB_found_r : (Int64 ⊕ Nat) × J → Res := fun q => ((match q.1 with | .inl r => .inl (some (.inr (.inl r))) | .inr e => .inr e), q.2)
-- 15: JB_found
def JB_found_b66 (n : Nat) (σ : J) : Option ((Int64 ⊕ Nat) × J) := some (.inl (-1), σ)
def JB_found_b45 (n : Nat) (l2 : Int32) (l3 : Nat) (σ : J) : Option ((Int64 ⊕ Nat) × J) := if l2 < 7 then JB_found_b66 n σ else if 10 < l2 then JB_found_b66 n σ else (Finding_valueOf n l3 (l2 - 7) σ).bind fun q4 => some (.inl q4.1, q4.2)
def JB_found_b25 (n : Nat) (l2 : Int32) (l3 : Nat) (σ : J) : Option ((Int64 ⊕ Nat) × J) := if l2 < 3 then JB_found_b45 n l2 l3 σ else if 6 < l2 then JB_found_b45 n l2 l3 σ else (Finding_kindOf n l3 (l2 - 3) σ).bind fun q3 => some (.inl q3.1.toInt64, q3.2)
def JB_found_b0 (n : Nat) (l1 : Int32) (l2 : Int32) (σ : J) : Option ((Int64 ⊕ Nat) × J) := (JB_sessionAt n l1 σ).bind fun q1 => (match q1.1 with | .inl r1 => if Nat.blt r1 (0 + n) = true then if l2 < 0 then JB_found_b25 n l2 (r1 + 1) q1.2 else if 2 < l2 then JB_found_b25 n l2 (r1 + 1) q1.2 else (Finding_numberFor n (r1 + 1) l2 q1.2).bind fun q2 => some (.inl q2.1.toInt64, q2.2) else none | .inr k0 => some (.inr k0, q1.2))
def JB_found (n : Nat) (x1 : Int32) (x2 : Int32) (σ : J) : Option ((Int64 ⊕ Nat) × J) := JB_found_b0 n x1 x2 σ
theorem JB_found_b66_e {n : Nat} {r0 : (Int64 ⊕ Nat) × J} {σ : J} (h : JB_found_b66 n σ = some r0) : q_ex q_pr n 2 15 66 (q_L []) [] σ (JB_found_r r0) := by
  unfold JB_found_b66 at h
  refine q_ex_go 1 (pc' := 69) (L' := (q_L [])) (st' := [.inr (.inl (-1))]) (σ' := σ) (fun _ => rfl) ?_
  cases h
  exact ⟨1, rfl⟩
theorem JB_found_b45_e {n : Nat} {r0 : (Int64 ⊕ Nat) × J} {l2 : Int32} {l3 : Nat} {σ : J} (h : JB_found_b45 n l2 l3 σ = some r0) : q_ex q_pr n 2 15 45 (q_L [(2, .inl l2), (3, .inr (.inr (some (12, l3))))]) [] σ (JB_found_r r0) := by
  unfold JB_found_b45 at h
  refine q_ex_br 3 (c := l2 < 7) (pc1 := 66) (pc2 := 51) (L' := (q_L [(2, .inl l2), (3, .inr (.inr (some (12, l3))))])) (st' := []) (σ' := σ) (fun _ => rfl) (fun hc => ?_) (fun hc => ?_)
  · rw [if_pos hc] at h
    exact q_ex_ll (JB_found_b66_e h) trivial
  · rw [if_neg hc] at h
    refine q_ex_br 3 (c := 10 < l2) (pc1 := 66) (pc2 := 57) (L' := (q_L [(2, .inl l2), (3, .inr (.inr (some (12, l3))))])) (st' := []) (σ' := σ) (fun _ => rfl) (fun hc => ?_) (fun hc => ?_)
    · rw [if_pos hc] at h
      exact q_ex_ll (JB_found_b66_e h) trivial
    · rw [if_neg hc] at h
      obtain ⟨q4, hq4, h⟩ := Option.bind_eq_some_iff.mp h
      refine q_ex_ca 5 (k1 := 55) (vs := [.inr (.inr (some (12, l3))), .inl (l2 - 7)]) (pc' := 65) (L' := (q_L [(2, .inl l2), (3, .inr (.inr (some (12, l3))))])) (rest := []) (σ' := σ) (fun _ => rfl) (q_ex_dd (Finding_valueOf_e hq4) (Nat.le_of_ble_eq_true rfl)) rfl ?_
      cases h
      exact ⟨1, rfl⟩
theorem JB_found_b25_e {n : Nat} {r0 : (Int64 ⊕ Nat) × J} {l2 : Int32} {l3 : Nat} {σ : J} (h : JB_found_b25 n l2 l3 σ = some r0) : q_ex q_pr n 2 15 25 (q_L [(2, .inl l2), (3, .inr (.inr (some (12, l3))))]) [] σ (JB_found_r r0) := by
  unfold JB_found_b25 at h
  refine q_ex_br 3 (c := l2 < 3) (pc1 := 45) (pc2 := 30) (L' := (q_L [(2, .inl l2), (3, .inr (.inr (some (12, l3))))])) (st' := []) (σ' := σ) (fun _ => rfl) (fun hc => ?_) (fun hc => ?_)
  · rw [if_pos hc] at h
    exact q_ex_ll (JB_found_b45_e h) ⟨rfl, rfl, trivial⟩
  · rw [if_neg hc] at h
    refine q_ex_br 3 (c := 6 < l2) (pc1 := 45) (pc2 := 36) (L' := (q_L [(2, .inl l2), (3, .inr (.inr (some (12, l3))))])) (st' := []) (σ' := σ) (fun _ => rfl) (fun hc => ?_) (fun hc => ?_)
    · rw [if_pos hc] at h
      exact q_ex_ll (JB_found_b45_e h) ⟨rfl, rfl, trivial⟩
    · rw [if_neg hc] at h
      obtain ⟨q3, hq3, h⟩ := Option.bind_eq_some_iff.mp h
      refine q_ex_ca 5 (k1 := 53) (vs := [.inr (.inr (some (12, l3))), .inl (l2 - 3)]) (pc' := 43) (L' := (q_L [(2, .inl l2), (3, .inr (.inr (some (12, l3))))])) (rest := []) (σ' := σ) (fun _ => rfl) (q_ex_dd (Finding_kindOf_e hq3) (Nat.le_of_ble_eq_true rfl)) rfl ?_
      refine q_ex_go 1 (pc' := 44) (L' := (q_L [(2, .inl l2), (3, .inr (.inr (some (12, l3))))])) (st' := [.inr (.inl q3.1.toInt64)]) (σ' := q3.2) (fun _ => rfl) ?_
      cases h
      exact ⟨1, rfl⟩
theorem JB_found_b0_e {n : Nat} {r0 : (Int64 ⊕ Nat) × J} {l1 : Int32} {l2 : Int32} {σ : J} (h : JB_found_b0 n l1 l2 σ = some r0) : q_ex q_pr n 2 15 0 (q_L [(0, .inr (.inr (some (0, 0)))), (1, .inl l1), (2, .inl l2)]) [] σ (JB_found_r r0) := by
  unfold JB_found_b0 at h
  obtain ⟨q1, hq1, h⟩ := Option.bind_eq_some_iff.mp h
  obtain ⟨q1, σ1⟩ := q1
  cases q1 with
  | inr k0 =>
    cases h
    exact q_ex_cx 3 (k1 := 31) (vs := [.inr (.inr (some (0, 0))), .inl l1]) (pc' := 5) (L' := (q_L [(0, .inr (.inr (some (0, 0)))), (1, .inl l1), (2, .inl l2)])) (rest := []) (σ' := σ) (fun _ => rfl) (q_ex_dd (JB_sessionAt_e hq1) (Nat.le_of_ble_eq_true rfl))
  | inl r1 =>
    refine q_by h (fun hy h => ?_)
    refine q_ex_ca 3 (k1 := 31) (vs := [.inr (.inr (some (0, 0))), .inl l1]) (pc' := 5) (L' := (q_L [(0, .inr (.inr (some (0, 0)))), (1, .inl l1), (2, .inl l2)])) (rest := []) (σ' := σ) (fun _ => rfl) (q_ex_dd (JB_sessionAt_e hq1) (Nat.le_of_ble_eq_true rfl)) hy ?_
    refine q_ex_br 4 (c := l2 < 0) (pc1 := 25) (pc2 := 13) (L' := (q_s1 (q_L [(0, .inr (.inr (some (0, 0)))), (1, .inl l1), (2, .inl l2)]) 3 (.inr (.inr (some (12, (r1 + 1))))))) (st' := []) (σ' := σ1) (fun _ => rfl) (fun hc => ?_) (fun hc => ?_)
    · rw [if_pos hc] at h
      exact q_ex_ll (JB_found_b25_e h) ⟨rfl, rfl, trivial⟩
    · rw [if_neg hc] at h
      refine q_ex_br 3 (c := 2 < l2) (pc1 := 25) (pc2 := 18) (L' := (q_s1 (q_L [(0, .inr (.inr (some (0, 0)))), (1, .inl l1), (2, .inl l2)]) 3 (.inr (.inr (some (12, (r1 + 1))))))) (st' := []) (σ' := σ1) (fun _ => rfl) (fun hc => ?_) (fun hc => ?_)
      · rw [if_pos hc] at h
        exact q_ex_ll (JB_found_b25_e h) ⟨rfl, rfl, trivial⟩
      · rw [if_neg hc] at h
        obtain ⟨q2, hq2, h⟩ := Option.bind_eq_some_iff.mp h
        refine q_ex_ca 3 (k1 := 54) (vs := [.inr (.inr (some (12, (r1 + 1)))), .inl l2]) (pc' := 23) (L' := (q_s1 (q_L [(0, .inr (.inr (some (0, 0)))), (1, .inl l1), (2, .inl l2)]) 3 (.inr (.inr (some (12, (r1 + 1))))))) (rest := []) (σ' := σ1) (fun _ => rfl) (q_ex_dd (Finding_numberFor_e hq2) (Nat.le_of_ble_eq_true rfl)) rfl ?_
        refine q_ex_go 1 (pc' := 24) (L' := (q_s1 (q_L [(0, .inr (.inr (some (0, 0)))), (1, .inl l1), (2, .inl l2)]) 3 (.inr (.inr (some (12, (r1 + 1))))))) (st' := [.inr (.inl q2.1.toInt64)]) (σ' := q2.2) (fun _ => rfl) ?_
        cases h
        exact ⟨1, rfl⟩
theorem JB_found_e {n : Nat} {r0 : (Int64 ⊕ Nat) × J} {x1 : Int32} {x2 : Int32} {σ : J} (h : JB_found n x1 x2 σ = some r0) : q_ex q_pr n 2 15 0 (q_args 0 [.inr (.inr (some (0, 0))), .inl x1, .inl x2]) [] σ (JB_found_r r0) := q_ex_ll (JB_found_b0_e h) ⟨rfl, rfl, rfl, trivial⟩
def JB_isSpan_r : (Int32) × J → Res := fun q => (.inl (some (.inl q.1)), q.2)
-- 17: JB_isSpan
def JB_isSpan_b16 (n : Nat) (s0 : Int32) (σ : J) : Option ((Int32) × J) := if s0 &&& 1 = s0 then some (s0, σ) else none
def JB_isSpan_b15 (n : Nat) (σ : J) : Option ((Int32) × J) := JB_isSpan_b16 n 0 σ
def JB_isSpan_b0 (n : Nat) (l0 : Int32) (σ : J) : Option ((Int32) × J) := if l0 < 0 then JB_isSpan_b15 n σ else if 1000 < l0 then JB_isSpan_b15 n σ else JB_isSpan_b16 n 1 σ
def JB_isSpan (n : Nat) (x0 : Int32) (σ : J) : Option ((Int32) × J) := JB_isSpan_b0 n x0 σ
theorem JB_isSpan_b16_e {n : Nat} {r0 : (Int32) × J} {s0 : Int32} {σ : J} (h : JB_isSpan_b16 n s0 σ = some r0) : q_ex q_pr n 0 17 16 (q_L []) [.inl s0] σ (JB_isSpan_r r0) := by
  unfold JB_isSpan_b16 at h
  refine q_by h (fun hz h => ?_)
  cases h
  exact ⟨1, if_pos (e := (none : Option Res)) hz⟩
theorem JB_isSpan_b15_e {n : Nat} {r0 : (Int32) × J} {σ : J} (h : JB_isSpan_b15 n σ = some r0) : q_ex q_pr n 0 17 15 (q_L []) [] σ (JB_isSpan_r r0) := by
  unfold JB_isSpan_b15 at h
  refine q_ex_go 1 (pc' := 16) (L' := (q_L [])) (st' := [.inl 0]) (σ' := σ) (fun _ => rfl) ?_
  exact q_ex_ll (JB_isSpan_b16_e h) trivial
theorem JB_isSpan_b0_e {n : Nat} {r0 : (Int32) × J} {l0 : Int32} {σ : J} (h : JB_isSpan_b0 n l0 σ = some r0) : q_ex q_pr n 0 17 0 (q_L [(0, .inl l0)]) [] σ (JB_isSpan_r r0) := by
  unfold JB_isSpan_b0 at h
  refine q_ex_br 2 (c := l0 < 0) (pc1 := 15) (pc2 := 4) (L' := (q_L [(0, .inl l0)])) (st' := []) (σ' := σ) (fun _ => rfl) (fun hc => ?_) (fun hc => ?_)
  · rw [if_pos hc] at h
    exact q_ex_ll (JB_isSpan_b15_e h) trivial
  · rw [if_neg hc] at h
    refine q_ex_br 3 (c := 1000 < l0) (pc1 := 15) (pc2 := 11) (L' := (q_L [(0, .inl l0)])) (st' := []) (σ' := σ) (fun _ => rfl) (fun hc => ?_) (fun hc => ?_)
    · rw [if_pos hc] at h
      exact q_ex_ll (JB_isSpan_b15_e h) trivial
    · rw [if_neg hc] at h
      refine q_ex_go 2 (pc' := 16) (L' := (q_L [(0, .inl l0)])) (st' := [.inl 1]) (σ' := σ) (fun _ => rfl) ?_
      exact q_ex_ll (JB_isSpan_b16_e h) trivial
theorem JB_isSpan_e {n : Nat} {r0 : (Int32) × J} {x0 : Int32} {σ : J} (h : JB_isSpan n x0 σ = some r0) : q_ex q_pr n 0 17 0 (q_args 0 [.inl x0]) [] σ (JB_isSpan_r r0) := q_ex_ll (JB_isSpan_b0_e h) ⟨rfl, trivial⟩
def JB_leaseEnd_r : (Int32) × J → Res := fun q => (.inl (some (.inl q.1)), q.2)
-- 18: JB_leaseEnd
def JB_leaseEnd_b14 (n : Nat) (s0 : Int32) (σ : J) : Option ((Int32) × J) := some (s0, σ)
def JB_leaseEnd_b0 (n : Nat) (l1 : Int32) (σ : J) : Option ((Int32) × J) := if l1 = 0 then JB_leaseEnd_b14 n 0 σ else JB_leaseEnd_b14 n ((σ.1 0 5 0) + l1) σ
def JB_leaseEnd (n : Nat) (x1 : Int32) (σ : J) : Option ((Int32) × J) := JB_leaseEnd_b0 n x1 σ
theorem JB_leaseEnd_b14_e {n : Nat} {r0 : (Int32) × J} {s0 : Int32} {σ : J} (h : JB_leaseEnd_b14 n s0 σ = some r0) : q_ex q_pr n 0 18 14 (q_L []) [.inl s0] σ (JB_leaseEnd_r r0) := by
  unfold JB_leaseEnd_b14 at h
  cases h
  exact ⟨1, rfl⟩
theorem JB_leaseEnd_b0_e {n : Nat} {r0 : (Int32) × J} {l1 : Int32} {σ : J} (h : JB_leaseEnd_b0 n l1 σ = some r0) : q_ex q_pr n 0 18 0 (q_L [(0, .inr (.inr (some (0, 0)))), (1, .inl l1)]) [] σ (JB_leaseEnd_r r0) := by
  unfold JB_leaseEnd_b0 at h
  refine q_ex_br 2 (c := l1 = 0) (pc1 := 4) (pc2 := 8) (L' := (q_L [(0, .inr (.inr (some (0, 0)))), (1, .inl l1)])) (st' := []) (σ' := σ) (fun _ => rfl) (fun hc => ?_) (fun hc => ?_)
  · rw [if_pos hc] at h
    refine q_ex_go 2 (pc' := 14) (L' := (q_L [(0, .inr (.inr (some (0, 0)))), (1, .inl l1)])) (st' := [.inl 0]) (σ' := σ) (fun _ => rfl) ?_
    exact q_ex_ll (JB_leaseEnd_b14_e h) trivial
  · rw [if_neg hc] at h
    refine q_ex_go 4 (pc' := 14) (L' := (q_L [(0, .inr (.inr (some (0, 0)))), (1, .inl l1)])) (st' := [.inl ((σ.1 0 5 0) + l1)]) (σ' := σ) (fun _ => rfl) ?_
    exact q_ex_ll (JB_leaseEnd_b14_e h) trivial
theorem JB_leaseEnd_e {n : Nat} {r0 : (Int32) × J} {x1 : Int32} {σ : J} (h : JB_leaseEnd n x1 σ = some r0) : q_ex q_pr n 0 18 0 (q_args 0 [.inr (.inr (some (0, 0))), .inl x1]) [] σ (JB_leaseEnd_r r0) := q_ex_ll (JB_leaseEnd_b0_e h) ⟨rfl, rfl, trivial⟩
def JB_now_r : (Int32) × J → Res := fun q => (.inl (some (.inl q.1)), q.2)
-- 19: JB_now
def JB_now_b0 (n : Nat) (σ : J) : Option ((Int32) × J) := some (σ.1 0 5 0, σ)
def JB_now (n : Nat) (σ : J) : Option ((Int32) × J) := JB_now_b0 n σ
theorem JB_now_b0_e {n : Nat} {r0 : (Int32) × J} {σ : J} (h : JB_now_b0 n σ = some r0) : q_ex q_pr n 0 19 0 (q_L [(0, .inr (.inr (some (0, 0))))]) [] σ (JB_now_r r0) := by
  unfold JB_now_b0 at h
  refine q_ex_go 2 (pc' := 4) (L' := (q_L [(0, .inr (.inr (some (0, 0))))])) (st' := [.inl (σ.1 0 5 0)]) (σ' := σ) (fun _ => rfl) ?_
  cases h
  exact ⟨1, rfl⟩
theorem JB_now_e {n : Nat} {r0 : (Int32) × J} {σ : J} (h : JB_now n σ = some r0) : q_ex q_pr n 0 19 0 (q_args 0 [.inr (.inr (some (0, 0)))]) [] σ (JB_now_r r0) := q_ex_ll (JB_now_b0_e h) ⟨rfl, trivial⟩
def JB_open_r : (Int32 ⊕ Nat) × J → Res := fun q => ((match q.1 with | .inl r => .inl (some (.inl r)) | .inr e => .inr e), q.2)
-- 20: JB_open
def JB_open_b0 (n : Nat) (l1 : Int32) (σ : J) : Option ((Int32 ⊕ Nat) × J) := (JB_readySession n l1 σ).bind fun q1 => (match q1.1 with | .inl r1 => if Nat.blt r1 (0 + n) = true then if (q1.2.1 16 4 r1) < 4 then q_bs (q_sI q1.2 16 4 r1 ((q1.2.1 16 4 r1) + 1)) fun σ2 => some (.inl (σ2.1 16 4 r1), σ2) else some (.inr 4, q1.2) else none | .inr k0 => some (.inr k0, q1.2))
def JB_open (n : Nat) (x1 : Int32) (σ : J) : Option ((Int32 ⊕ Nat) × J) := JB_open_b0 n x1 σ
theorem JB_open_b0_e {n : Nat} {r0 : (Int32 ⊕ Nat) × J} {l1 : Int32} {σ : J} (h : JB_open_b0 n l1 σ = some r0) : q_ex q_pr n 2 20 0 (q_L [(0, .inr (.inr (some (0, 0)))), (1, .inl l1)]) [] σ (JB_open_r r0) := by
  unfold JB_open_b0 at h
  obtain ⟨q1, hq1, h⟩ := Option.bind_eq_some_iff.mp h
  obtain ⟨q1, σ1⟩ := q1
  cases q1 with
  | inr k0 =>
    cases h
    exact q_ex_cx 3 (k1 := 24) (vs := [.inr (.inr (some (0, 0))), .inl l1]) (pc' := 5) (L' := (q_L [(0, .inr (.inr (some (0, 0)))), (1, .inl l1)])) (rest := []) (σ' := σ) (fun _ => rfl) (q_ex_dd (JB_readySession_e hq1) (Nat.le_of_ble_eq_true rfl))
  | inl r1 =>
    refine q_by h (fun hy h => ?_)
    refine q_ex_ca 3 (k1 := 24) (vs := [.inr (.inr (some (0, 0))), .inl l1]) (pc' := 5) (L' := (q_L [(0, .inr (.inr (some (0, 0)))), (1, .inl l1)])) (rest := []) (σ' := σ) (fun _ => rfl) (q_ex_dd (JB_readySession_e hq1) (Nat.le_of_ble_eq_true rfl)) hy ?_
    refine q_ex_br 5 (c := (σ1.1 16 4 r1) < 4) (pc1 := 22) (pc2 := 14) (L' := (q_s1 (q_L [(0, .inr (.inr (some (0, 0)))), (1, .inl l1)]) 2 (.inr (.inr (some (16, r1)))))) (st' := []) (σ' := σ1) (fun _ => rfl) (fun hc => ?_) (fun hc => ?_)
    · rw [if_pos hc] at h
      refine q_ex_go 6 (pc' := 32) (L' := (q_s1 (q_L [(0, .inr (.inr (some (0, 0)))), (1, .inl l1)]) 2 (.inr (.inr (some (16, r1)))))) (st' := []) (σ' := (q_sI σ1 16 4 r1 ((σ1.1 16 4 r1) + 1))) (fun _ => rfl) ?_
      refine q_nm (G := fun τ => q_ex q_pr n _ 20 32 (q_s1 (q_L [(0, .inr (.inr (some (0, 0)))), (1, .inl l1)]) 2 (.inr (.inr (some (16, r1))))) [] τ _) h (fun σ2 h => ?_)
      refine q_ex_go 2 (pc' := 36) (L' := (q_s1 (q_L [(0, .inr (.inr (some (0, 0)))), (1, .inl l1)]) 2 (.inr (.inr (some (16, r1)))))) (st' := [.inl (σ2.1 16 4 r1)]) (σ' := σ2) (fun _ => rfl) ?_
      cases h
      exact ⟨1, rfl⟩
    · rw [if_neg hc] at h
      cases h
      exact ⟨1, rfl⟩
theorem JB_open_e {n : Nat} {r0 : (Int32 ⊕ Nat) × J} {x1 : Int32} {σ : J} (h : JB_open n x1 σ = some r0) : q_ex q_pr n 2 20 0 (q_args 0 [.inr (.inr (some (0, 0))), .inl x1]) [] σ (JB_open_r r0) := q_ex_ll (JB_open_b0_e h) ⟨rfl, rfl, trivial⟩
def JB_order_r : (Int32 ⊕ Nat) × J → Res := fun q => ((match q.1 with | .inl r => .inl (some (.inl r)) | .inr e => .inr e), q.2)
-- 21: JB_order
def JB_order_b0 (n : Nat) (f : Nat) (l1 : Int32) (σ : J) : Option ((Int32 ⊕ Nat) × J) := (JB_readySession n l1 σ).bind fun q1 => (match q1.1 with | .inl r1 => if Nat.blt r1 (0 + n) = true then (Session_hasPatterns n f r1 1 q1.2).bind fun q2 => if q2.1 = 0 then some (.inr 3, q2.2) else if (q2.2.1 0 4 0) < 6 then if q_in (q2.2.1 0 4 0) 6 = true then if Nat.blt (q2.2.2.2.2 20 0 (q2.2.1 0 4 0).toNatClampNeg) 6 = true then if q_in 0 3 = true then if Nat.blt (q2.2.2.2.2 17 r1 (0 : Int32).toNatClampNeg) (6 + 3 * n) = true then (Pattern_copyFrom n (q2.2.2.2.2 20 0 (q2.2.1 0 4 0).toNatClampNeg) (q2.2.2.2.2 17 r1 (0 : Int32).toNatClampNeg) q2.2).bind fun q3 => q_bs (q_sI q3 0 4 0 ((q3.1 0 4 0) + 1)) fun σ4 => some (.inl ((σ4.1 0 4 0) - 1), σ4) else none else none else none else none else some (.inr 4, q2.2) else none | .inr k0 => some (.inr k0, q1.2))
def JB_order (n : Nat) (f : Nat) (x1 : Int32) (σ : J) : Option ((Int32 ⊕ Nat) × J) := JB_order_b0 n f x1 σ
theorem JB_order_b0_e {n : Nat} {r0 : (Int32 ⊕ Nat) × J} {f : Nat} {l1 : Int32} {σ : J} (h : JB_order_b0 n f l1 σ = some r0) : q_ex q_pr n 2 21 0 (q_L [(0, .inr (.inr (some (0, 0)))), (1, .inl l1)]) [] σ (JB_order_r r0) := by
  unfold JB_order_b0 at h
  obtain ⟨q1, hq1, h⟩ := Option.bind_eq_some_iff.mp h
  obtain ⟨q1, σ1⟩ := q1
  cases q1 with
  | inr k0 =>
    cases h
    exact q_ex_cx 3 (k1 := 24) (vs := [.inr (.inr (some (0, 0))), .inl l1]) (pc' := 5) (L' := (q_L [(0, .inr (.inr (some (0, 0)))), (1, .inl l1)])) (rest := []) (σ' := σ) (fun _ => rfl) (q_ex_dd (JB_readySession_e hq1) (Nat.le_of_ble_eq_true rfl))
  | inl r1 =>
    refine q_by h (fun hy h => ?_)
    refine q_ex_ca 3 (k1 := 24) (vs := [.inr (.inr (some (0, 0))), .inl l1]) (pc' := 5) (L' := (q_L [(0, .inr (.inr (some (0, 0)))), (1, .inl l1)])) (rest := []) (σ' := σ) (fun _ => rfl) (q_ex_dd (JB_readySession_e hq1) (Nat.le_of_ble_eq_true rfl)) hy ?_
    obtain ⟨q2, hq2, h⟩ := Option.bind_eq_some_iff.mp h
    refine q_ex_ca 4 (k1 := 68) (vs := [.inr (.inr (some (16, r1))), .inl 1]) (pc' := 11) (L' := (q_s1 (q_L [(0, .inr (.inr (some (0, 0)))), (1, .inl l1)]) 2 (.inr (.inr (some (16, r1)))))) (rest := []) (σ' := σ1) (fun _ => rfl) (q_ex_dd (Session_hasPatterns_e hq2) (Nat.le_of_ble_eq_true rfl)) rfl ?_
    refine q_ex_br 1 (c := q2.1 = 0) (pc1 := 14) (pc2 := 22) (L' := (q_s1 (q_L [(0, .inr (.inr (some (0, 0)))), (1, .inl l1)]) 2 (.inr (.inr (some (16, r1)))))) (st' := []) (σ' := q2.2) (fun _ => rfl) (fun hc => ?_) (fun hc => ?_)
    · rw [if_pos hc] at h
      cases h
      exact ⟨1, rfl⟩
    · rw [if_neg hc] at h
      refine q_ex_br 4 (c := (q2.2.1 0 4 0) < 6) (pc1 := 39) (pc2 := 31) (L' := (q_s1 (q_L [(0, .inr (.inr (some (0, 0)))), (1, .inl l1)]) 2 (.inr (.inr (some (16, r1)))))) (st' := []) (σ' := q2.2) (fun _ => rfl) (fun hc => ?_) (fun hc => ?_)
      · rw [if_pos hc] at h
        refine q_by h (fun hz h => ?_)
        refine q_by h (fun hy h => ?_)
        refine q_ex_g2 5 (pc' := 48) (L' := (q_s1 (q_L [(0, .inr (.inr (some (0, 0)))), (1, .inl l1)]) 2 (.inr (.inr (some (16, r1)))))) (st' := [.inr (.inr (some (18, q2.2.2.2.2 20 0 (q2.2.1 0 4 0).toNatClampNeg)))]) (σ' := q2.2) (fun _ => rfl) hz hy ?_
        refine q_by h (fun hz h => ?_)
        refine q_by h (fun hy h => ?_)
        refine q_ex_g2 5 (pc' := 57) (L' := (q_s1 (q_L [(0, .inr (.inr (some (0, 0)))), (1, .inl l1)]) 2 (.inr (.inr (some (16, r1)))))) (st' := [.inr (.inr (some (8, q2.2.2.2.2 17 r1 (0 : Int32).toNatClampNeg))), .inr (.inr (some (8, (q2.2.2.2.2 20 0 (q2.2.1 0 4 0).toNatClampNeg))))]) (σ' := q2.2) (fun _ => rfl) hz hy ?_
        obtain ⟨q3, hq3, h⟩ := Option.bind_eq_some_iff.mp h
        refine q_ex_ca 1 (k1 := 62) (vs := [.inr (.inr (some (8, (q2.2.2.2.2 20 0 (q2.2.1 0 4 0).toNatClampNeg)))), .inr (.inr (some (8, q2.2.2.2.2 17 r1 (0 : Int32).toNatClampNeg)))]) (pc' := 60) (L' := (q_s1 (q_L [(0, .inr (.inr (some (0, 0)))), (1, .inl l1)]) 2 (.inr (.inr (some (16, r1)))))) (rest := []) (σ' := q2.2) (fun _ => rfl) (q_ex_dd (Pattern_copyFrom_e hq3) (Nat.le_of_ble_eq_true rfl)) rfl ?_
        refine q_ex_go 6 (pc' := 70) (L' := (q_s1 (q_L [(0, .inr (.inr (some (0, 0)))), (1, .inl l1)]) 2 (.inr (.inr (some (16, r1)))))) (st' := []) (σ' := (q_sI q3 0 4 0 ((q3.1 0 4 0) + 1))) (fun _ => rfl) ?_
        refine q_nm (G := fun τ => q_ex q_pr n _ 21 70 (q_s1 (q_L [(0, .inr (.inr (some (0, 0)))), (1, .inl l1)]) 2 (.inr (.inr (some (16, r1))))) [] τ _) h (fun σ4 h => ?_)
        refine q_ex_go 4 (pc' := 76) (L' := (q_s1 (q_L [(0, .inr (.inr (some (0, 0)))), (1, .inl l1)]) 2 (.inr (.inr (some (16, r1)))))) (st' := [.inl ((σ4.1 0 4 0) - 1)]) (σ' := σ4) (fun _ => rfl) ?_
        cases h
        exact ⟨1, rfl⟩
      · rw [if_neg hc] at h
        cases h
        exact ⟨1, rfl⟩
theorem JB_order_e {n : Nat} {r0 : (Int32 ⊕ Nat) × J} {f : Nat} {x1 : Int32} {σ : J} (h : JB_order n f x1 σ = some r0) : q_ex q_pr n 2 21 0 (q_args 0 [.inr (.inr (some (0, 0))), .inl x1]) [] σ (JB_order_r r0) := q_ex_ll (JB_order_b0_e h) ⟨rfl, rfl, trivial⟩
def JB_placeDraft_r : (Int32) × J → Res := fun q => (.inl (some (.inl q.1)), q.2)
-- 22: JB_placeDraft
def JB_placeDraft_b44 (n : Nat) (f : Nat) (l3 : Nat) (σ : J) : Option ((Int32) × J) := some (σ.1 4 1 l3, σ)
def JB_placeDraft_b0 (n : Nat) (f : Nat) (l1 : Nat) (l2 : Int32) (σ : J) : Option ((Int32) × J) := (Board_add n f (20 + l1) l2 σ).bind fun q1 => if Nat.blt q1.1 20 = true then if (q1.2.1 16 4 l1) ≤ 0 then (JB_report n f q1.1 q1.2).bind fun q2 => (JB_serveLine n f q2).bind fun q3 => JB_placeDraft_b44 n f q1.1 q3 else (Tuple_putInto n q1.1 (q1.2.1 16 0 l1) (q1.2.1 16 4 l1) q1.2).bind fun q4 => JB_placeDraft_b44 n f q1.1 q4 else none
def JB_placeDraft (n : Nat) (f : Nat) (x1 : Nat) (x2 : Int32) (σ : J) : Option ((Int32) × J) := JB_placeDraft_b0 n f x1 x2 σ
theorem JB_placeDraft_b44_e {n : Nat} {r0 : (Int32) × J} {f : Nat} {l3 : Nat} {σ : J} (h : JB_placeDraft_b44 n f l3 σ = some r0) : q_ex q_pr n 9 22 44 (q_L [(3, .inr (.inr (some (4, l3))))]) [] σ (JB_placeDraft_r r0) := by
  unfold JB_placeDraft_b44 at h
  refine q_ex_go 2 (pc' := 48) (L' := (q_L [(3, .inr (.inr (some (4, l3))))])) (st' := [.inl (σ.1 4 1 l3)]) (σ' := σ) (fun _ => rfl) ?_
  cases h
  exact ⟨1, rfl⟩
theorem JB_placeDraft_b0_e {n : Nat} {r0 : (Int32) × J} {f : Nat} {l1 : Nat} {l2 : Int32} {σ : J} (h : JB_placeDraft_b0 n f l1 l2 σ = some r0) : q_ex q_pr n 9 22 0 (q_L [(0, .inr (.inr (some (0, 0)))), (1, .inr (.inr (some (16, l1)))), (2, .inl l2)]) [] σ (JB_placeDraft_r r0) := by
  unfold JB_placeDraft_b0 at h
  obtain ⟨q1, hq1, h⟩ := Option.bind_eq_some_iff.mp h
  refine q_by h (fun hy h => ?_)
  refine q_ex_ca 6 (k1 := 36) (vs := [.inr (.inr (some (2, 0))), .inr (.inr (some (5, (20 + l1)))), .inl l2]) (pc' := 12) (L' := (q_L [(0, .inr (.inr (some (0, 0)))), (1, .inr (.inr (some (16, l1)))), (2, .inl l2)])) (rest := []) (σ' := σ) (fun _ => rfl) (q_ex_dd (Board_add_e hq1) (Nat.le_of_ble_eq_true rfl)) hy ?_
  refine q_ex_br 4 (c := (q1.2.1 16 4 l1) ≤ 0) (pc1 := 35) (pc2 := 20) (L' := (q_s1 (q_L [(0, .inr (.inr (some (0, 0)))), (1, .inr (.inr (some (16, l1)))), (2, .inl l2)]) 3 (.inr (.inr (some (4, q1.1)))))) (st' := []) (σ' := q1.2) (fun _ => rfl) (fun hc => ?_) (fun hc => ?_)
  · rw [if_pos hc] at h
    obtain ⟨q2, hq2, h⟩ := Option.bind_eq_some_iff.mp h
    refine q_ex_ca 3 (k1 := 26) (vs := [.inr (.inr (some (0, 0))), .inr (.inr (some (4, q1.1)))]) (pc' := 40) (L' := (q_s1 (q_L [(0, .inr (.inr (some (0, 0)))), (1, .inr (.inr (some (16, l1)))), (2, .inl l2)]) 3 (.inr (.inr (some (4, q1.1)))))) (rest := []) (σ' := q1.2) (fun _ => rfl) (q_ex_dd (JB_report_e hq2) (Nat.le_of_ble_eq_true rfl)) rfl ?_
    obtain ⟨q3, hq3, h⟩ := Option.bind_eq_some_iff.mp h
    refine q_ex_ca 2 (k1 := 29) (vs := [.inr (.inr (some (0, 0)))]) (pc' := 44) (L' := (q_s1 (q_L [(0, .inr (.inr (some (0, 0)))), (1, .inr (.inr (some (16, l1)))), (2, .inl l2)]) 3 (.inr (.inr (some (4, q1.1)))))) (rest := []) (σ' := q2) (fun _ => rfl) (q_ex_dd (JB_serveLine_e hq3) (Nat.le_of_ble_eq_true rfl)) rfl ?_
    exact q_ex_ll (JB_placeDraft_b44_e h) ⟨rfl, trivial⟩
  · rw [if_neg hc] at h
    obtain ⟨q4, hq4, h⟩ := Option.bind_eq_some_iff.mp h
    refine q_ex_ca 6 (k1 := 76) (vs := [.inr (.inr (some (4, q1.1))), .inl (q1.2.1 16 0 l1), .inl (q1.2.1 16 4 l1)]) (pc' := 32) (L' := (q_s1 (q_L [(0, .inr (.inr (some (0, 0)))), (1, .inr (.inr (some (16, l1)))), (2, .inl l2)]) 3 (.inr (.inr (some (4, q1.1)))))) (rest := []) (σ' := q1.2) (fun _ => rfl) (q_ex_dd (Tuple_putInto_e hq4) (Nat.le_of_ble_eq_true rfl)) rfl ?_
    refine q_ex_go 1 (pc' := 44) (L' := (q_s1 (q_L [(0, .inr (.inr (some (0, 0)))), (1, .inr (.inr (some (16, l1)))), (2, .inl l2)]) 3 (.inr (.inr (some (4, q1.1)))))) (st' := []) (σ' := q4) (fun _ => rfl) ?_
    exact q_ex_ll (JB_placeDraft_b44_e h) ⟨rfl, trivial⟩
theorem JB_placeDraft_e {n : Nat} {r0 : (Int32) × J} {f : Nat} {x1 : Nat} {x2 : Int32} {σ : J} (h : JB_placeDraft n f x1 x2 σ = some r0) : q_ex q_pr n 9 22 0 (q_args 0 [.inr (.inr (some (0, 0))), .inr (.inr (some (16, x1))), .inl x2]) [] σ (JB_placeDraft_r r0) := q_ex_ll (JB_placeDraft_b0_e h) ⟨rfl, rfl, rfl, trivial⟩
def JB_put_r : (Int32 ⊕ Nat) × J → Res := fun q => ((match q.1 with | .inl r => .inl (some (.inl r)) | .inr e => .inr e), q.2)
-- 23: JB_put
def JB_put_b23 (n : Nat) (f : Nat) (σ : J) : Option ((Int32 ⊕ Nat) × J) := some (.inr 3, σ)
def JB_put_b0 (n : Nat) (f : Nat) (l1 : Int32) (l2 : Int32) (σ : J) : Option ((Int32 ⊕ Nat) × J) := (JB_readySession n l1 σ).bind fun q1 => (match q1.1 with | .inl r1 => if Nat.blt r1 (0 + n) = true then if (q1.2.1 5 0 (20 + r1)) = 0 then JB_put_b23 n f q1.2 else (JB_isSpan n l2 q1.2).bind fun q2 => if q2.1 = 0 then JB_put_b23 n f q2.2 else (Board_isFull n f q2.2).bind fun q3 => if q3.1 = 0 then (JB_leaseEnd n l2 q3.2).bind fun q4 => (JB_placeDraft n f r1 q4.1 q4.2).bind fun q5 => some (.inl q5.1, q5.2) else some (.inr 4, q3.2) else none | .inr k0 => some (.inr k0, q1.2))
def JB_put (n : Nat) (f : Nat) (x1 : Int32) (x2 : Int32) (σ : J) : Option ((Int32 ⊕ Nat) × J) := JB_put_b0 n f x1 x2 σ
theorem JB_put_b23_e {n : Nat} {r0 : (Int32 ⊕ Nat) × J} {f : Nat} {σ : J} (h : JB_put_b23 n f σ = some r0) : q_ex q_pr n 10 23 23 (q_L []) [] σ (JB_put_r r0) := by
  unfold JB_put_b23 at h
  cases h
  exact ⟨1, rfl⟩
theorem JB_put_b0_e {n : Nat} {r0 : (Int32 ⊕ Nat) × J} {f : Nat} {l1 : Int32} {l2 : Int32} {σ : J} (h : JB_put_b0 n f l1 l2 σ = some r0) : q_ex q_pr n 10 23 0 (q_L [(0, .inr (.inr (some (0, 0)))), (1, .inl l1), (2, .inl l2)]) [] σ (JB_put_r r0) := by
  unfold JB_put_b0 at h
  obtain ⟨q1, hq1, h⟩ := Option.bind_eq_some_iff.mp h
  obtain ⟨q1, σ1⟩ := q1
  cases q1 with
  | inr k0 =>
    cases h
    exact q_ex_cx 3 (k1 := 24) (vs := [.inr (.inr (some (0, 0))), .inl l1]) (pc' := 5) (L' := (q_L [(0, .inr (.inr (some (0, 0)))), (1, .inl l1), (2, .inl l2)])) (rest := []) (σ' := σ) (fun _ => rfl) (q_ex_dd (JB_readySession_e hq1) (Nat.le_of_ble_eq_true rfl))
  | inl r1 =>
    refine q_by h (fun hy h => ?_)
    refine q_ex_ca 3 (k1 := 24) (vs := [.inr (.inr (some (0, 0))), .inl l1]) (pc' := 5) (L' := (q_L [(0, .inr (.inr (some (0, 0)))), (1, .inl l1), (2, .inl l2)])) (rest := []) (σ' := σ) (fun _ => rfl) (q_ex_dd (JB_readySession_e hq1) (Nat.le_of_ble_eq_true rfl)) hy ?_
    refine q_ex_br 5 (c := (σ1.1 5 0 (20 + r1)) = 0) (pc1 := 23) (pc2 := 16) (L' := (q_s1 (q_L [(0, .inr (.inr (some (0, 0)))), (1, .inl l1), (2, .inl l2)]) 3 (.inr (.inr (some (16, r1)))))) (st' := []) (σ' := σ1) (fun _ => rfl) (fun hc => ?_) (fun hc => ?_)
    · rw [if_pos hc] at h
      exact q_ex_ll (JB_put_b23_e h) trivial
    · rw [if_neg hc] at h
      obtain ⟨q2, hq2, h⟩ := Option.bind_eq_some_iff.mp h
      refine q_ex_ca 2 (k1 := 17) (vs := [.inl l2]) (pc' := 20) (L' := (q_s1 (q_L [(0, .inr (.inr (some (0, 0)))), (1, .inl l1), (2, .inl l2)]) 3 (.inr (.inr (some (16, r1)))))) (rest := []) (σ' := σ1) (fun _ => rfl) (q_ex_dd (JB_isSpan_e hq2) (Nat.le_of_ble_eq_true rfl)) rfl ?_
      refine q_ex_br 1 (c := q2.1 = 0) (pc1 := 23) (pc2 := 31) (L' := (q_s1 (q_L [(0, .inr (.inr (some (0, 0)))), (1, .inl l1), (2, .inl l2)]) 3 (.inr (.inr (some (16, r1)))))) (st' := []) (σ' := q2.2) (fun _ => rfl) (fun hc => ?_) (fun hc => ?_)
      · rw [if_pos hc] at h
        exact q_ex_ll (JB_put_b23_e h) trivial
      · rw [if_neg hc] at h
        obtain ⟨q3, hq3, h⟩ := Option.bind_eq_some_iff.mp h
        refine q_ex_ca 3 (k1 := 40) (vs := [.inr (.inr (some (2, 0)))]) (pc' := 38) (L' := (q_s1 (q_L [(0, .inr (.inr (some (0, 0)))), (1, .inl l1), (2, .inl l2)]) 3 (.inr (.inr (some (16, r1)))))) (rest := []) (σ' := q2.2) (fun _ => rfl) (q_ex_dd (Board_isFull_e hq3) (Nat.le_of_ble_eq_true rfl)) rfl ?_
        refine q_ex_br 1 (c := q3.1 = 0) (pc1 := 49) (pc2 := 41) (L' := (q_s1 (q_L [(0, .inr (.inr (some (0, 0)))), (1, .inl l1), (2, .inl l2)]) 3 (.inr (.inr (some (16, r1)))))) (st' := []) (σ' := q3.2) (fun _ => rfl) (fun hc => ?_) (fun hc => ?_)
        · rw [if_pos hc] at h
          obtain ⟨q4, hq4, h⟩ := Option.bind_eq_some_iff.mp h
          refine q_ex_ca 5 (k1 := 18) (vs := [.inr (.inr (some (0, 0))), .inl l2]) (pc' := 56) (L' := (q_s1 (q_L [(0, .inr (.inr (some (0, 0)))), (1, .inl l1), (2, .inl l2)]) 3 (.inr (.inr (some (16, r1)))))) (rest := [.inr (.inr (some (16, r1))), .inr (.inr (some (0, 0)))]) (σ' := q3.2) (fun _ => rfl) (q_ex_dd (JB_leaseEnd_e hq4) (Nat.le_of_ble_eq_true rfl)) rfl ?_
          obtain ⟨q5, hq5, h⟩ := Option.bind_eq_some_iff.mp h
          refine q_ex_ca 1 (k1 := 22) (vs := [.inr (.inr (some (0, 0))), .inr (.inr (some (16, r1))), .inl q4.1]) (pc' := 59) (L' := (q_s1 (q_L [(0, .inr (.inr (some (0, 0)))), (1, .inl l1), (2, .inl l2)]) 3 (.inr (.inr (some (16, r1)))))) (rest := []) (σ' := q4.2) (fun _ => rfl) (q_ex_dd (JB_placeDraft_e hq5) (Nat.le_of_ble_eq_true rfl)) rfl ?_
          cases h
          exact ⟨1, rfl⟩
        · rw [if_neg hc] at h
          cases h
          exact ⟨1, rfl⟩
theorem JB_put_e {n : Nat} {r0 : (Int32 ⊕ Nat) × J} {f : Nat} {x1 : Int32} {x2 : Int32} {σ : J} (h : JB_put n f x1 x2 σ = some r0) : q_ex q_pr n 10 23 0 (q_args 0 [.inr (.inr (some (0, 0))), .inl x1, .inl x2]) [] σ (JB_put_r r0) := q_ex_ll (JB_put_b0_e h) ⟨rfl, rfl, rfl, trivial⟩
def JB_renew_r : (Int32 ⊕ Nat) × J → Res := fun q => ((match q.1 with | .inl r => .inl (some (.inl r)) | .inr e => .inr e), q.2)
-- 25: JB_renew
def JB_renew_b45 (n : Nat) (f : Nat) (σ : J) : Option ((Int32 ⊕ Nat) × J) := if (0 : Int32) &&& 1 = 0 then some (.inl 0, σ) else none
def JB_renew_b0 (n : Nat) (f : Nat) (l1 : Int32) (l2 : Int32) (l3 : Int32) (σ : J) : Option ((Int32 ⊕ Nat) × J) := (JB_readySession n l1 σ).bind fun q1 => (match q1.1 with | .inl r1 => if Nat.blt r1 (0 + n) = true then (JB_isSpan n l3 q1.2).bind fun q2 => if q2.1 = 0 then some (.inr 3, q2.2) else (Board_lookUp n f l2 q2.2).bind fun q3 => (match q3.1 with | none => JB_renew_b45 n f q3.2 | some t3 => if Nat.blt t3 20 = true then (Tuple_isSeenBy n t3 l1 q3.2).bind fun q4 => if q4.1 = 0 then JB_renew_b45 n f q4.2 else (JB_leaseEnd n l3 q4.2).bind fun q5 => q_bs (q_sI q5.2 4 2 t3 q5.1) fun σ6 => if (1 : Int32) &&& 1 = 1 then some (.inl 1, σ6) else none else none) else none | .inr k0 => some (.inr k0, q1.2))
def JB_renew (n : Nat) (f : Nat) (x1 : Int32) (x2 : Int32) (x3 : Int32) (σ : J) : Option ((Int32 ⊕ Nat) × J) := JB_renew_b0 n f x1 x2 x3 σ
theorem JB_renew_b45_e {n : Nat} {r0 : (Int32 ⊕ Nat) × J} {f : Nat} {σ : J} (h : JB_renew_b45 n f σ = some r0) : q_ex q_pr n 2 25 45 (q_L []) [] σ (JB_renew_r r0) := by
  unfold JB_renew_b45 at h
  refine q_ex_go 1 (pc' := 46) (L' := (q_L [])) (st' := [.inl 0]) (σ' := σ) (fun _ => rfl) ?_
  refine q_by h (fun hz h => ?_)
  cases h
  exact ⟨1, if_pos (e := (none : Option Res)) hz⟩
theorem JB_renew_b0_e {n : Nat} {r0 : (Int32 ⊕ Nat) × J} {f : Nat} {l1 : Int32} {l2 : Int32} {l3 : Int32} {σ : J} (h : JB_renew_b0 n f l1 l2 l3 σ = some r0) : q_ex q_pr n 2 25 0 (q_L [(0, .inr (.inr (some (0, 0)))), (1, .inl l1), (2, .inl l2), (3, .inl l3)]) [] σ (JB_renew_r r0) := by
  unfold JB_renew_b0 at h
  obtain ⟨q1, hq1, h⟩ := Option.bind_eq_some_iff.mp h
  obtain ⟨q1, σ1⟩ := q1
  cases q1 with
  | inr k0 =>
    cases h
    exact q_ex_cx 3 (k1 := 24) (vs := [.inr (.inr (some (0, 0))), .inl l1]) (pc' := 5) (L' := (q_L [(0, .inr (.inr (some (0, 0)))), (1, .inl l1), (2, .inl l2), (3, .inl l3)])) (rest := []) (σ' := σ) (fun _ => rfl) (q_ex_dd (JB_readySession_e hq1) (Nat.le_of_ble_eq_true rfl))
  | inl r1 =>
    refine q_by h (fun hy h => ?_)
    refine q_ex_ca 3 (k1 := 24) (vs := [.inr (.inr (some (0, 0))), .inl l1]) (pc' := 5) (L' := (q_L [(0, .inr (.inr (some (0, 0)))), (1, .inl l1), (2, .inl l2), (3, .inl l3)])) (rest := []) (σ' := σ) (fun _ => rfl) (q_ex_dd (JB_readySession_e hq1) (Nat.le_of_ble_eq_true rfl)) hy ?_
    obtain ⟨q2, hq2, h⟩ := Option.bind_eq_some_iff.mp h
    refine q_ex_ca 3 (k1 := 17) (vs := [.inl l3]) (pc' := 10) (L' := (q_L [(0, .inr (.inr (some (0, 0)))), (1, .inl l1), (2, .inl l2), (3, .inl l3)])) (rest := []) (σ' := σ1) (fun _ => rfl) (q_ex_dd (JB_isSpan_e hq2) (Nat.le_of_ble_eq_true rfl)) rfl ?_
    refine q_ex_br 1 (c := q2.1 = 0) (pc1 := 13) (pc2 := 21) (L' := (q_L [(0, .inr (.inr (some (0, 0)))), (1, .inl l1), (2, .inl l2), (3, .inl l3)])) (st' := []) (σ' := q2.2) (fun _ => rfl) (fun hc => ?_) (fun hc => ?_)
    · rw [if_pos hc] at h
      cases h
      exact ⟨1, rfl⟩
    · rw [if_neg hc] at h
      obtain ⟨q3, hq3, h⟩ := Option.bind_eq_some_iff.mp h
      obtain ⟨q3, σ3⟩ := q3
      cases q3 with
      | none =>
        refine q_ex_ca 4 (k1 := 41) (vs := [.inr (.inr (some (2, 0))), .inl l2]) (pc' := 29) (L' := (q_L [(0, .inr (.inr (some (0, 0)))), (1, .inl l1), (2, .inl l2), (3, .inl l3)])) (rest := []) (σ' := q2.2) (fun _ => rfl) (q_ex_dd (Board_lookUp_e hq3) (Nat.le_of_ble_eq_true rfl)) rfl ?_
        refine q_ex_go 3 (pc' := 45) (L' := (q_s1 (q_L [(0, .inr (.inr (some (0, 0)))), (1, .inl l1), (2, .inl l2), (3, .inl l3)]) 4 (.inr (.inr none)))) (st' := []) (σ' := σ3) (fun _ => rfl) ?_
        exact q_ex_ll (JB_renew_b45_e h) trivial
      | some t3 =>
        refine q_by h (fun hy h => ?_)
        refine q_ex_ca 4 (k1 := 41) (vs := [.inr (.inr (some (2, 0))), .inl l2]) (pc' := 29) (L' := (q_L [(0, .inr (.inr (some (0, 0)))), (1, .inl l1), (2, .inl l2), (3, .inl l3)])) (rest := []) (σ' := q2.2) (fun _ => rfl) (q_ex_dd (Board_lookUp_e hq3) (Nat.le_of_ble_eq_true rfl)) hy ?_
        obtain ⟨q4, hq4, h⟩ := Option.bind_eq_some_iff.mp h
        refine q_ex_ca 6 (k1 := 73) (vs := [.inr (.inr (some (4, t3))), .inl l1]) (pc' := 42) (L' := (q_s1 (q_L [(0, .inr (.inr (some (0, 0)))), (1, .inl l1), (2, .inl l2), (3, .inl l3)]) 4 (.inr (.inr (some (4, t3)))))) (rest := []) (σ' := σ3) (fun _ => rfl) (q_ex_dd (Tuple_isSeenBy_e hq4) (Nat.le_of_ble_eq_true rfl)) rfl ?_
        refine q_ex_br 1 (c := q4.1 = 0) (pc1 := 45) (pc2 := 47) (L' := (q_s1 (q_L [(0, .inr (.inr (some (0, 0)))), (1, .inl l1), (2, .inl l2), (3, .inl l3)]) 4 (.inr (.inr (some (4, t3)))))) (st' := []) (σ' := q4.2) (fun _ => rfl) (fun hc => ?_) (fun hc => ?_)
        · rw [if_pos hc] at h
          exact q_ex_ll (JB_renew_b45_e h) trivial
        · rw [if_neg hc] at h
          obtain ⟨q5, hq5, h⟩ := Option.bind_eq_some_iff.mp h
          refine q_ex_ca 4 (k1 := 18) (vs := [.inr (.inr (some (0, 0))), .inl l3]) (pc' := 54) (L' := (q_s1 (q_L [(0, .inr (.inr (some (0, 0)))), (1, .inl l1), (2, .inl l2), (3, .inl l3)]) 4 (.inr (.inr (some (4, t3)))))) (rest := [.inr (.inr (some (4, t3)))]) (σ' := q4.2) (fun _ => rfl) (q_ex_dd (JB_leaseEnd_e hq5) (Nat.le_of_ble_eq_true rfl)) rfl ?_
          refine q_ex_go 1 (pc' := 57) (L' := (q_s1 (q_L [(0, .inr (.inr (some (0, 0)))), (1, .inl l1), (2, .inl l2), (3, .inl l3)]) 4 (.inr (.inr (some (4, t3)))))) (st' := []) (σ' := (q_sI q5.2 4 2 t3 q5.1)) (fun _ => rfl) ?_
          refine q_nm (G := fun τ => q_ex q_pr n _ 25 57 (q_s1 (q_L [(0, .inr (.inr (some (0, 0)))), (1, .inl l1), (2, .inl l2), (3, .inl l3)]) 4 (.inr (.inr (some (4, t3))))) [] τ _) h (fun σ6 h => ?_)
          refine q_ex_go 1 (pc' := 58) (L' := (q_s1 (q_L [(0, .inr (.inr (some (0, 0)))), (1, .inl l1), (2, .inl l2), (3, .inl l3)]) 4 (.inr (.inr (some (4, t3)))))) (st' := [.inl 1]) (σ' := σ6) (fun _ => rfl) ?_
          refine q_by h (fun hz h => ?_)
          cases h
          exact ⟨1, if_pos (e := (none : Option Res)) hz⟩
theorem JB_renew_e {n : Nat} {r0 : (Int32 ⊕ Nat) × J} {f : Nat} {x1 : Int32} {x2 : Int32} {x3 : Int32} {σ : J} (h : JB_renew n f x1 x2 x3 σ = some r0) : q_ex q_pr n 2 25 0 (q_args 0 [.inr (.inr (some (0, 0))), .inl x1, .inl x2, .inl x3]) [] σ (JB_renew_r r0) := q_ex_ll (JB_renew_b0_e h) ⟨rfl, rfl, rfl, rfl, trivial⟩
def JB_seen_r : (Int32 ⊕ Nat) × J → Res := fun q => ((match q.1 with | .inl r => .inl (some (.inl r)) | .inr e => .inr e), q.2)
-- 28: JB_seen
def JB_seen_b58 (n : Nat) (k11 : Int32 → Int32 → Int32 → Int32 → J → Option ((Int32 ⊕ Nat) × J)) (f : Nat) (l1 : Int32) (l2 : Int32) (l3 : Int32) (l4 : Int32) (σ : J) : Option ((Int32 ⊕ Nat) × J) := k11 l1 l2 l3 (l4 + 1) σ
def JB_seen_b11 (n : Nat) (k11 : Int32 → Int32 → Int32 → Int32 → J → Option ((Int32 ⊕ Nat) × J)) (f : Nat) (l1 : Int32) (l2 : Int32) (l3 : Int32) (l4 : Int32) (σ : J) : Option ((Int32 ⊕ Nat) × J) := if (σ.1 2 1 0) ≤ l4 then some (.inl (-1), σ) else if q_in l4 20 = true then if Nat.blt (σ.2.2.2 3 0 l4.toNatClampNeg) 20 = true then (Tuple_isSeenBy n (σ.2.2.2 3 0 l4.toNatClampNeg) l1 σ).bind fun q2 => if q2.1 = 0 then JB_seen_b58 n k11 f l1 l2 l3 l4 q2.2 else if l3 = l2 then some (.inl (q2.2.1 4 1 (σ.2.2.2 3 0 l4.toNatClampNeg)), q2.2) else JB_seen_b58 n k11 f l1 l2 (l3 + 1) l4 q2.2 else none else none
def JB_seen_L11 (n : Nat) : Nat → Int32 → Int32 → Int32 → Int32 → J → Option ((Int32 ⊕ Nat) × J)
  | 0 => fun _ _ _ _ _ => none
  | f + 1 => fun l1 l2 l3 l4 σ => JB_seen_b11 n (JB_seen_L11 n f) f l1 l2 l3 l4 σ
def JB_seen_b0 (n : Nat) (f : Nat) (l1 : Int32) (l2 : Int32) (σ : J) : Option ((Int32 ⊕ Nat) × J) := (JB_sessionAt n l1 σ).bind fun q1 => (match q1.1 with | .inl r1 => if Nat.blt r1 (0 + n) = true then JB_seen_L11 n f l1 l2 0 0 q1.2 else none | .inr k0 => some (.inr k0, q1.2))
def JB_seen (n : Nat) (f : Nat) (x1 : Int32) (x2 : Int32) (σ : J) : Option ((Int32 ⊕ Nat) × J) := JB_seen_b0 n f x1 x2 σ
theorem JB_seen_b58_e {n : Nat} {r0 : (Int32 ⊕ Nat) × J} {k11 : Int32 → Int32 → Int32 → Int32 → J → Option ((Int32 ⊕ Nat) × J)} {f : Nat} {l1 : Int32} {l2 : Int32} {l3 : Int32} {l4 : Int32} {σ : J} (hk11 : ∀ {l1 : Int32} {l2 : Int32} {l3 : Int32} {l4 : Int32} {σ : J}, k11 l1 l2 l3 l4 σ = some r0 → q_ex q_pr n 2 28 11 (q_L [(0, .inr (.inr (some (0, 0)))), (1, .inl l1), (2, .inl l2), (3, .inl l3), (4, .inl l4)]) [] σ (JB_seen_r r0)) (h : JB_seen_b58 n k11 f l1 l2 l3 l4 σ = some r0) : q_ex q_pr n 2 28 58 (q_L [(0, .inr (.inr (some (0, 0)))), (1, .inl l1), (2, .inl l2), (3, .inl l3), (4, .inl l4)]) [] σ (JB_seen_r r0) := by
  unfold JB_seen_b58 at h
  refine q_ex_go 2 (pc' := 11) (L' := (q_s1 (q_L [(0, .inr (.inr (some (0, 0)))), (1, .inl l1), (2, .inl l2), (3, .inl l3), (4, .inl l4)]) 4 (.inl (l4 + 1)))) (st' := []) (σ' := σ) (fun _ => rfl) ?_
  exact q_ex_ll (hk11 h) ⟨rfl, rfl, rfl, rfl, rfl, trivial⟩
theorem JB_seen_b11_e {n : Nat} {r0 : (Int32 ⊕ Nat) × J} {k11 : Int32 → Int32 → Int32 → Int32 → J → Option ((Int32 ⊕ Nat) × J)} {f : Nat} {l1 : Int32} {l2 : Int32} {l3 : Int32} {l4 : Int32} {σ : J} (hk11 : ∀ {l1 : Int32} {l2 : Int32} {l3 : Int32} {l4 : Int32} {σ : J}, k11 l1 l2 l3 l4 σ = some r0 → q_ex q_pr n 2 28 11 (q_L [(0, .inr (.inr (some (0, 0)))), (1, .inl l1), (2, .inl l2), (3, .inl l3), (4, .inl l4)]) [] σ (JB_seen_r r0)) (h : JB_seen_b11 n k11 f l1 l2 l3 l4 σ = some r0) : q_ex q_pr n 2 28 11 (q_L [(0, .inr (.inr (some (0, 0)))), (1, .inl l1), (2, .inl l2), (3, .inl l3), (4, .inl l4)]) [] σ (JB_seen_r r0) := by
  unfold JB_seen_b11 at h
  refine q_ex_br 5 (c := (σ.1 2 1 0) ≤ l4) (pc1 := 64) (pc2 := 23) (L' := (q_L [(0, .inr (.inr (some (0, 0)))), (1, .inl l1), (2, .inl l2), (3, .inl l3), (4, .inl l4)])) (st' := []) (σ' := σ) (fun _ => rfl) (fun hc => ?_) (fun hc => ?_)
  · rw [if_pos hc] at h
    refine q_ex_go 1 (pc' := 65) (L' := (q_L [(0, .inr (.inr (some (0, 0)))), (1, .inl l1), (2, .inl l2), (3, .inl l3), (4, .inl l4)])) (st' := [.inl (-1)]) (σ' := σ) (fun _ => rfl) ?_
    cases h
    exact ⟨1, rfl⟩
  · rw [if_neg hc] at h
    refine q_by h (fun hz h => ?_)
    refine q_by h (fun hy h => ?_)
    refine q_ex_g2 5 (pc' := 33) (L' := (q_L [(0, .inr (.inr (some (0, 0)))), (1, .inl l1), (2, .inl l2), (3, .inl l3), (4, .inl l4)])) (st' := [.inr (.inr (some (4, σ.2.2.2 3 0 l4.toNatClampNeg)))]) (σ' := σ) (fun _ => rfl) hz hy ?_
    obtain ⟨q2, hq2, h⟩ := Option.bind_eq_some_iff.mp h
    refine q_ex_ca 4 (k1 := 73) (vs := [.inr (.inr (some (4, σ.2.2.2 3 0 l4.toNatClampNeg))), .inl l1]) (pc' := 41) (L' := (q_s1 (q_L [(0, .inr (.inr (some (0, 0)))), (1, .inl l1), (2, .inl l2), (3, .inl l3), (4, .inl l4)]) 5 (.inr (.inr (some (4, σ.2.2.2 3 0 l4.toNatClampNeg)))))) (rest := []) (σ' := σ) (fun _ => rfl) (q_ex_dd (Tuple_isSeenBy_e hq2) (Nat.le_of_ble_eq_true rfl)) rfl ?_
    refine q_ex_br 1 (c := q2.1 = 0) (pc1 := 58) (pc2 := 44) (L' := (q_s1 (q_L [(0, .inr (.inr (some (0, 0)))), (1, .inl l1), (2, .inl l2), (3, .inl l3), (4, .inl l4)]) 5 (.inr (.inr (some (4, σ.2.2.2 3 0 l4.toNatClampNeg)))))) (st' := []) (σ' := q2.2) (fun _ => rfl) (fun hc => ?_) (fun hc => ?_)
    · rw [if_pos hc] at h
      exact q_ex_ll (JB_seen_b58_e hk11 h) ⟨rfl, rfl, rfl, rfl, rfl, trivial⟩
    · rw [if_neg hc] at h
      refine q_ex_br 3 (c := l3 = l2) (pc1 := 49) (pc2 := 55) (L' := (q_s1 (q_L [(0, .inr (.inr (some (0, 0)))), (1, .inl l1), (2, .inl l2), (3, .inl l3), (4, .inl l4)]) 5 (.inr (.inr (some (4, σ.2.2.2 3 0 l4.toNatClampNeg)))))) (st' := []) (σ' := q2.2) (fun _ => rfl) (fun hc => ?_) (fun hc => ?_)
      · rw [if_pos hc] at h
        refine q_ex_go 2 (pc' := 54) (L' := (q_s1 (q_L [(0, .inr (.inr (some (0, 0)))), (1, .inl l1), (2, .inl l2), (3, .inl l3), (4, .inl l4)]) 5 (.inr (.inr (some (4, σ.2.2.2 3 0 l4.toNatClampNeg)))))) (st' := [.inl (q2.2.1 4 1 (σ.2.2.2 3 0 l4.toNatClampNeg))]) (σ' := q2.2) (fun _ => rfl) ?_
        cases h
        exact ⟨1, rfl⟩
      · rw [if_neg hc] at h
        refine q_ex_go 1 (pc' := 58) (L' := (q_s1 (q_s1 (q_L [(0, .inr (.inr (some (0, 0)))), (1, .inl l1), (2, .inl l2), (3, .inl l3), (4, .inl l4)]) 5 (.inr (.inr (some (4, σ.2.2.2 3 0 l4.toNatClampNeg))))) 3 (.inl (l3 + 1)))) (st' := []) (σ' := q2.2) (fun _ => rfl) ?_
        exact q_ex_ll (JB_seen_b58_e hk11 h) ⟨rfl, rfl, rfl, rfl, rfl, trivial⟩
theorem JB_seen_L11_e {n : Nat} {r0 : (Int32 ⊕ Nat) × J} (f : Nat) : ∀ {l1 : Int32} {l2 : Int32} {l3 : Int32} {l4 : Int32} {σ : J}, JB_seen_L11 n f l1 l2 l3 l4 σ = some r0 → q_ex q_pr n 2 28 11 (q_L [(0, .inr (.inr (some (0, 0)))), (1, .inl l1), (2, .inl l2), (3, .inl l3), (4, .inl l4)]) [] σ (JB_seen_r r0) := by
  induction f with
  | zero => intro l1 l2 l3 l4 σ h; cases h
  | succ f ih =>
    intro l1 l2 l3 l4 σ h
    exact JB_seen_b11_e (f := f)  (fun h => ih h) h
theorem JB_seen_b0_e {n : Nat} {r0 : (Int32 ⊕ Nat) × J} {f : Nat} {l1 : Int32} {l2 : Int32} {σ : J} (h : JB_seen_b0 n f l1 l2 σ = some r0) : q_ex q_pr n 2 28 0 (q_L [(0, .inr (.inr (some (0, 0)))), (1, .inl l1), (2, .inl l2)]) [] σ (JB_seen_r r0) := by
  unfold JB_seen_b0 at h
  obtain ⟨q1, hq1, h⟩ := Option.bind_eq_some_iff.mp h
  obtain ⟨q1, σ1⟩ := q1
  cases q1 with
  | inr k0 =>
    cases h
    exact q_ex_cx 3 (k1 := 31) (vs := [.inr (.inr (some (0, 0))), .inl l1]) (pc' := 5) (L' := (q_L [(0, .inr (.inr (some (0, 0)))), (1, .inl l1), (2, .inl l2)])) (rest := []) (σ' := σ) (fun _ => rfl) (q_ex_dd (JB_sessionAt_e hq1) (Nat.le_of_ble_eq_true rfl))
  | inl r1 =>
    refine q_by h (fun hy h => ?_)
    refine q_ex_ca 3 (k1 := 31) (vs := [.inr (.inr (some (0, 0))), .inl l1]) (pc' := 5) (L' := (q_L [(0, .inr (.inr (some (0, 0)))), (1, .inl l1), (2, .inl l2)])) (rest := []) (σ' := σ) (fun _ => rfl) (q_ex_dd (JB_sessionAt_e hq1) (Nat.le_of_ble_eq_true rfl)) hy ?_
    refine q_ex_go 5 (pc' := 11) (L' := (q_s1 (q_s1 (q_L [(0, .inr (.inr (some (0, 0)))), (1, .inl l1), (2, .inl l2)]) 3 (.inl 0)) 4 (.inl 0))) (st' := []) (σ' := σ1) (fun _ => rfl) ?_
    exact q_ex_ll (JB_seen_L11_e f h) ⟨rfl, rfl, rfl, rfl, rfl, trivial⟩
theorem JB_seen_e {n : Nat} {r0 : (Int32 ⊕ Nat) × J} {f : Nat} {x1 : Int32} {x2 : Int32} {σ : J} (h : JB_seen n f x1 x2 σ = some r0) : q_ex q_pr n 2 28 0 (q_args 0 [.inr (.inr (some (0, 0))), .inl x1, .inl x2]) [] σ (JB_seen_r r0) := q_ex_ll (JB_seen_b0_e h) ⟨rfl, rfl, rfl, trivial⟩
def JB_session_r : (Int32 ⊕ Nat) × J → Res := fun q => ((match q.1 with | .inl r => .inl (some (.inl r)) | .inr e => .inr e), q.2)
-- 30: JB_session
def JB_session_b66 (n : Nat) (f : Nat) (l2 : Int32) (l3 : Nat) (σ : J) : Option ((Int32 ⊕ Nat) × J) := if q_in (l2 - 3) 3 = true then if Nat.blt (σ.2.2.2 17 l3 (l2 - 3).toNatClampNeg) (6 + 3 * n) = true then some (.inl (σ.1 8 0 (σ.2.2.2 17 l3 (l2 - 3).toNatClampNeg)), σ) else none else none
def JB_session_b0 (n : Nat) (f : Nat) (l1 : Int32) (l2 : Int32) (σ : J) : Option ((Int32 ⊕ Nat) × J) := (JB_sessionAt n l1 σ).bind fun q1 => (match q1.1 with | .inl r1 => if Nat.blt r1 (0 + n) = true then if l2 = Int32.ofNat 0 then some (.inl (q1.2.1 16 5 r1), q1.2) else if l2 = Int32.ofNat 1 then some (.inl (q1.2.1 16 4 r1), q1.2) else if l2 = Int32.ofNat 2 then some (.inl (q1.2.1 5 0 (20 + r1)), q1.2) else if l2 = Int32.ofNat 3 then JB_session_b66 n f l2 r1 q1.2 else if l2 = Int32.ofNat 4 then JB_session_b66 n f l2 r1 q1.2 else if l2 = Int32.ofNat 5 then JB_session_b66 n f l2 r1 q1.2 else if l2 = Int32.ofNat 6 then (Line_placeOf n f l1 q1.2).bind fun q2 => some (.inl q2.1, q2.2) else some (.inl (-1), q1.2) else none | .inr k0 => some (.inr k0, q1.2))
def JB_session (n : Nat) (f : Nat) (x1 : Int32) (x2 : Int32) (σ : J) : Option ((Int32 ⊕ Nat) × J) := JB_session_b0 n f x1 x2 σ
theorem JB_session_b66_e {n : Nat} {r0 : (Int32 ⊕ Nat) × J} {f : Nat} {l2 : Int32} {l3 : Nat} {σ : J} (h : JB_session_b66 n f l2 l3 σ = some r0) : q_ex q_pr n 1 30 66 (q_L [(2, .inl l2), (3, .inr (.inr (some (16, l3))))]) [] σ (JB_session_r r0) := by
  unfold JB_session_b66 at h
  refine q_by h (fun hz h => ?_)
  refine q_by h (fun hy h => ?_)
  refine q_ex_g2 6 (pc' := 74) (L' := (q_L [(2, .inl l2), (3, .inr (.inr (some (16, l3))))])) (st' := [.inr (.inr (some (8, σ.2.2.2 17 l3 (l2 - 3).toNatClampNeg)))]) (σ' := σ) (fun _ => rfl) hz hy ?_
  refine q_ex_go 1 (pc' := 77) (L' := (q_L [(2, .inl l2), (3, .inr (.inr (some (16, l3))))])) (st' := [.inl (σ.1 8 0 (σ.2.2.2 17 l3 (l2 - 3).toNatClampNeg))]) (σ' := σ) (fun _ => rfl) ?_
  cases h
  exact ⟨1, rfl⟩
theorem JB_session_b0_e {n : Nat} {r0 : (Int32 ⊕ Nat) × J} {f : Nat} {l1 : Int32} {l2 : Int32} {σ : J} (h : JB_session_b0 n f l1 l2 σ = some r0) : q_ex q_pr n 1 30 0 (q_L [(0, .inr (.inr (some (0, 0)))), (1, .inl l1), (2, .inl l2)]) [] σ (JB_session_r r0) := by
  unfold JB_session_b0 at h
  obtain ⟨q1, hq1, h⟩ := Option.bind_eq_some_iff.mp h
  obtain ⟨q1, σ1⟩ := q1
  cases q1 with
  | inr k0 =>
    cases h
    exact q_ex_cx 3 (k1 := 31) (vs := [.inr (.inr (some (0, 0))), .inl l1]) (pc' := 5) (L' := (q_L [(0, .inr (.inr (some (0, 0)))), (1, .inl l1), (2, .inl l2)])) (rest := []) (σ' := σ) (fun _ => rfl) (q_ex_dd (JB_sessionAt_e hq1) (Nat.le_of_ble_eq_true rfl))
  | inl r1 =>
    refine q_by h (fun hy h => ?_)
    refine q_ex_ca 3 (k1 := 31) (vs := [.inr (.inr (some (0, 0))), .inl l1]) (pc' := 5) (L' := (q_L [(0, .inr (.inr (some (0, 0)))), (1, .inl l1), (2, .inl l2)])) (rest := []) (σ' := σ) (fun _ => rfl) (q_ex_dd (JB_sessionAt_e hq1) (Nat.le_of_ble_eq_true rfl)) hy ?_
    refine q_ex_sw 3 (x := l2) (lo := 0) (ts := [48, 53, 58, 66, 66, 66, 78]) (t := 87) (L' := (q_s1 (q_L [(0, .inr (.inr (some (0, 0)))), (1, .inl l1), (2, .inl l2)]) 3 (.inr (.inr (some (16, r1)))))) (st' := []) (σ' := σ1) (fun _ => rfl) ?_
    refine q_sw_c (fun (hc : l2 = Int32.ofNat 0) => ?_) (fun (hc : ¬ l2 = Int32.ofNat 0) => ?_)
    · rw [if_pos hc] at h
      refine q_ex_go 2 (pc' := 52) (L' := (q_s1 (q_L [(0, .inr (.inr (some (0, 0)))), (1, .inl l1), (2, .inl l2)]) 3 (.inr (.inr (some (16, r1)))))) (st' := [.inl (σ1.1 16 5 r1)]) (σ' := σ1) (fun _ => rfl) ?_
      cases h
      exact ⟨1, rfl⟩
    rw [if_neg hc] at h
    refine q_sw_c (fun (hc : l2 = Int32.ofNat 1) => ?_) (fun (hc : ¬ l2 = Int32.ofNat 1) => ?_)
    · rw [if_pos hc] at h
      refine q_ex_go 2 (pc' := 57) (L' := (q_s1 (q_L [(0, .inr (.inr (some (0, 0)))), (1, .inl l1), (2, .inl l2)]) 3 (.inr (.inr (some (16, r1)))))) (st' := [.inl (σ1.1 16 4 r1)]) (σ' := σ1) (fun _ => rfl) ?_
      cases h
      exact ⟨1, rfl⟩
    rw [if_neg hc] at h
    refine q_sw_c (fun (hc : l2 = Int32.ofNat 2) => ?_) (fun (hc : ¬ l2 = Int32.ofNat 2) => ?_)
    · rw [if_pos hc] at h
      refine q_ex_go 3 (pc' := 65) (L' := (q_s1 (q_L [(0, .inr (.inr (some (0, 0)))), (1, .inl l1), (2, .inl l2)]) 3 (.inr (.inr (some (16, r1)))))) (st' := [.inl (σ1.1 5 0 (20 + r1))]) (σ' := σ1) (fun _ => rfl) ?_
      cases h
      exact ⟨1, rfl⟩
    rw [if_neg hc] at h
    refine q_sw_c (fun (hc : l2 = Int32.ofNat 3) => ?_) (fun (hc : ¬ l2 = Int32.ofNat 3) => ?_)
    · rw [if_pos hc] at h
      exact q_ex_ll (JB_session_b66_e h) ⟨rfl, rfl, trivial⟩
    rw [if_neg hc] at h
    refine q_sw_c (fun (hc : l2 = Int32.ofNat 4) => ?_) (fun (hc : ¬ l2 = Int32.ofNat 4) => ?_)
    · rw [if_pos hc] at h
      exact q_ex_ll (JB_session_b66_e h) ⟨rfl, rfl, trivial⟩
    rw [if_neg hc] at h
    refine q_sw_c (fun (hc : l2 = Int32.ofNat 5) => ?_) (fun (hc : ¬ l2 = Int32.ofNat 5) => ?_)
    · rw [if_pos hc] at h
      exact q_ex_ll (JB_session_b66_e h) ⟨rfl, rfl, trivial⟩
    rw [if_neg hc] at h
    refine q_sw_c (fun (hc : l2 = Int32.ofNat 6) => ?_) (fun (hc : ¬ l2 = Int32.ofNat 6) => ?_)
    · rw [if_pos hc] at h
      obtain ⟨q2, hq2, h⟩ := Option.bind_eq_some_iff.mp h
      refine q_ex_ca 4 (k1 := 57) (vs := [.inr (.inr (some (21, 0))), .inl l1]) (pc' := 86) (L' := (q_s1 (q_L [(0, .inr (.inr (some (0, 0)))), (1, .inl l1), (2, .inl l2)]) 3 (.inr (.inr (some (16, r1)))))) (rest := []) (σ' := σ1) (fun _ => rfl) (q_ex_dd (Line_placeOf_e hq2) (Nat.le_of_ble_eq_true rfl)) rfl ?_
      cases h
      exact ⟨1, rfl⟩
    rw [if_neg hc] at h
    refine q_sw_d ?_
    refine q_ex_go 1 (pc' := 88) (L' := (q_s1 (q_L [(0, .inr (.inr (some (0, 0)))), (1, .inl l1), (2, .inl l2)]) 3 (.inr (.inr (some (16, r1)))))) (st' := [.inl (-1)]) (σ' := σ1) (fun _ => rfl) ?_
    cases h
    exact ⟨1, rfl⟩
theorem JB_session_e {n : Nat} {r0 : (Int32 ⊕ Nat) × J} {f : Nat} {x1 : Int32} {x2 : Int32} {σ : J} (h : JB_session n f x1 x2 σ = some r0) : q_ex q_pr n 1 30 0 (q_args 0 [.inr (.inr (some (0, 0))), .inl x1, .inl x2]) [] σ (JB_session_r r0) := q_ex_ll (JB_session_b0_e h) ⟨rfl, rfl, rfl, trivial⟩
def JB_stop_r : (Int32 ⊕ Nat) × J → Res := fun q => ((match q.1 with | .inl r => .inl (some (.inl r)) | .inr e => .inr e), q.2)
-- 33: JB_stop
def JB_stop_b0 (n : Nat) (f : Nat) (l1 : Int32) (σ : J) : Option ((Int32 ⊕ Nat) × J) := (JB_sessionAt n l1 σ).bind fun q1 => (match q1.1 with | .inl r1 => if Nat.blt r1 (0 + n) = true then if (q1.2.1 16 5 r1) = 1 then (JB_endWait n f r1 0 q1.2).bind fun q2 => if (1 : Int32) &&& 1 = 1 then some (.inl 1, q2) else none else if (0 : Int32) &&& 1 = 0 then some (.inl 0, q1.2) else none else none | .inr k0 => some (.inr k0, q1.2))
def JB_stop (n : Nat) (f : Nat) (x1 : Int32) (σ : J) : Option ((Int32 ⊕ Nat) × J) := JB_stop_b0 n f x1 σ
theorem JB_stop_b0_e {n : Nat} {r0 : (Int32 ⊕ Nat) × J} {f : Nat} {l1 : Int32} {σ : J} (h : JB_stop_b0 n f l1 σ = some r0) : q_ex q_pr n 3 33 0 (q_L [(0, .inr (.inr (some (0, 0)))), (1, .inl l1)]) [] σ (JB_stop_r r0) := by
  unfold JB_stop_b0 at h
  obtain ⟨q1, hq1, h⟩ := Option.bind_eq_some_iff.mp h
  obtain ⟨q1, σ1⟩ := q1
  cases q1 with
  | inr k0 =>
    cases h
    exact q_ex_cx 3 (k1 := 31) (vs := [.inr (.inr (some (0, 0))), .inl l1]) (pc' := 5) (L' := (q_L [(0, .inr (.inr (some (0, 0)))), (1, .inl l1)])) (rest := []) (σ' := σ) (fun _ => rfl) (q_ex_dd (JB_sessionAt_e hq1) (Nat.le_of_ble_eq_true rfl))
  | inl r1 =>
    refine q_by h (fun hy h => ?_)
    refine q_ex_ca 3 (k1 := 31) (vs := [.inr (.inr (some (0, 0))), .inl l1]) (pc' := 5) (L' := (q_L [(0, .inr (.inr (some (0, 0)))), (1, .inl l1)])) (rest := []) (σ' := σ) (fun _ => rfl) (q_ex_dd (JB_sessionAt_e hq1) (Nat.le_of_ble_eq_true rfl)) hy ?_
    refine q_ex_br 5 (c := (σ1.1 16 5 r1) = 1) (pc1 := 16) (pc2 := 14) (L' := (q_s1 (q_L [(0, .inr (.inr (some (0, 0)))), (1, .inl l1)]) 2 (.inr (.inr (some (16, r1)))))) (st' := []) (σ' := σ1) (fun _ => rfl) (fun hc => ?_) (fun hc => ?_)
    · rw [if_pos hc] at h
      obtain ⟨q2, hq2, h⟩ := Option.bind_eq_some_iff.mp h
      refine q_ex_ca 4 (k1 := 7) (vs := [.inr (.inr (some (0, 0))), .inr (.inr (some (16, r1))), .inl 0]) (pc' := 22) (L' := (q_s1 (q_L [(0, .inr (.inr (some (0, 0)))), (1, .inl l1)]) 2 (.inr (.inr (some (16, r1)))))) (rest := []) (σ' := σ1) (fun _ => rfl) (q_ex_dd (JB_endWait_e hq2) (Nat.le_of_ble_eq_true rfl)) rfl ?_
      refine q_ex_go 1 (pc' := 23) (L' := (q_s1 (q_L [(0, .inr (.inr (some (0, 0)))), (1, .inl l1)]) 2 (.inr (.inr (some (16, r1)))))) (st' := [.inl 1]) (σ' := q2) (fun _ => rfl) ?_
      refine q_by h (fun hz h => ?_)
      cases h
      exact ⟨1, if_pos (e := (none : Option Res)) hz⟩
    · rw [if_neg hc] at h
      refine q_ex_go 1 (pc' := 15) (L' := (q_s1 (q_L [(0, .inr (.inr (some (0, 0)))), (1, .inl l1)]) 2 (.inr (.inr (some (16, r1)))))) (st' := [.inl 0]) (σ' := σ1) (fun _ => rfl) ?_
      refine q_by h (fun hz h => ?_)
      cases h
      exact ⟨1, if_pos (e := (none : Option Res)) hz⟩
theorem JB_stop_e {n : Nat} {r0 : (Int32 ⊕ Nat) × J} {f : Nat} {x1 : Int32} {σ : J} (h : JB_stop n f x1 σ = some r0) : q_ex q_pr n 3 33 0 (q_args 0 [.inr (.inr (some (0, 0))), .inl x1]) [] σ (JB_stop_r r0) := q_ex_ll (JB_stop_b0_e h) ⟨rfl, rfl, trivial⟩
def JB_swap_r : (Int32 ⊕ Nat) × J → Res := fun q => ((match q.1 with | .inl r => .inl (some (.inl r)) | .inr e => .inr e), q.2)
-- 34: JB_swap
def JB_swap_b24 (n : Nat) (f : Nat) (σ : J) : Option ((Int32 ⊕ Nat) × J) := some (.inr 3, σ)
def JB_swap_b68 (n : Nat) (f : Nat) (l2 : Nat) (l3 : Int32) (σ : J) : Option ((Int32 ⊕ Nat) × J) := (Session_ask n f l2 1 1 σ).bind fun q5 => if l3 = 0 then some (.inl (-1), q5) else (JB_grant n f l2 q5).bind fun q6 => (JB_placeDraft n f l2 0 q6).bind fun q7 => some (.inl q7.1, q7.2)
def JB_swap_b0 (n : Nat) (f : Nat) (l1 : Int32) (σ : J) : Option ((Int32 ⊕ Nat) × J) := (JB_readySession n l1 σ).bind fun q1 => (match q1.1 with | .inl r1 => if Nat.blt r1 (0 + n) = true then if (q1.2.1 5 0 (20 + r1)) = 0 then JB_swap_b24 n f q1.2 else (Session_hasPatterns n f r1 1 q1.2).bind fun q2 => if q2.1 = 0 then JB_swap_b24 n f q2.2 else (JB_searchFor n f r1 1 q2.2).bind fun q3 => if q3.1 = 0 then JB_swap_b68 n f r1 q3.1 q3.2 else if (q3.2.1 16 4 r1) ≤ 0 then JB_swap_b68 n f r1 q3.1 q3.2 else (Board_isFull n f q3.2).bind fun q4 => if q4.1 = 0 then JB_swap_b68 n f r1 q3.1 q4.2 else some (.inr 4, q4.2) else none | .inr k0 => some (.inr k0, q1.2))
def JB_swap (n : Nat) (f : Nat) (x1 : Int32) (σ : J) : Option ((Int32 ⊕ Nat) × J) := JB_swap_b0 n f x1 σ
theorem JB_swap_b24_e {n : Nat} {r0 : (Int32 ⊕ Nat) × J} {f : Nat} {σ : J} (h : JB_swap_b24 n f σ = some r0) : q_ex q_pr n 10 34 24 (q_L []) [] σ (JB_swap_r r0) := by
  unfold JB_swap_b24 at h
  cases h
  exact ⟨1, rfl⟩
theorem JB_swap_b68_e {n : Nat} {r0 : (Int32 ⊕ Nat) × J} {f : Nat} {l2 : Nat} {l3 : Int32} {σ : J} (h : JB_swap_b68 n f l2 l3 σ = some r0) : q_ex q_pr n 10 34 68 (q_L [(0, .inr (.inr (some (0, 0)))), (2, .inr (.inr (some (16, l2)))), (3, .inl l3)]) [] σ (JB_swap_r r0) := by
  unfold JB_swap_b68 at h
  obtain ⟨q5, hq5, h⟩ := Option.bind_eq_some_iff.mp h
  refine q_ex_ca 4 (k1 := 67) (vs := [.inr (.inr (some (16, l2))), .inl 1, .inl 1]) (pc' := 74) (L' := (q_L [(0, .inr (.inr (some (0, 0)))), (2, .inr (.inr (some (16, l2)))), (3, .inl l3)])) (rest := []) (σ' := σ) (fun _ => rfl) (q_ex_dd (Session_ask_e hq5) (Nat.le_of_ble_eq_true rfl)) rfl ?_
  refine q_ex_br 2 (c := l3 = 0) (pc1 := 78) (pc2 := 80) (L' := (q_L [(0, .inr (.inr (some (0, 0)))), (2, .inr (.inr (some (16, l2)))), (3, .inl l3)])) (st' := []) (σ' := q5) (fun _ => rfl) (fun hc => ?_) (fun hc => ?_)
  · rw [if_pos hc] at h
    refine q_ex_go 1 (pc' := 79) (L' := (q_L [(0, .inr (.inr (some (0, 0)))), (2, .inr (.inr (some (16, l2)))), (3, .inl l3)])) (st' := [.inl (-1)]) (σ' := q5) (fun _ => rfl) ?_
    cases h
    exact ⟨1, rfl⟩
  · rw [if_neg hc] at h
    obtain ⟨q6, hq6, h⟩ := Option.bind_eq_some_iff.mp h
    refine q_ex_ca 3 (k1 := 16) (vs := [.inr (.inr (some (0, 0))), .inr (.inr (some (16, l2)))]) (pc' := 85) (L' := (q_L [(0, .inr (.inr (some (0, 0)))), (2, .inr (.inr (some (16, l2)))), (3, .inl l3)])) (rest := []) (σ' := q5) (fun _ => rfl) (q_ex_dd (JB_grant_e hq6) (Nat.le_of_ble_eq_true rfl)) rfl ?_
    obtain ⟨q7, hq7, h⟩ := Option.bind_eq_some_iff.mp h
    refine q_ex_ca 4 (k1 := 22) (vs := [.inr (.inr (some (0, 0))), .inr (.inr (some (16, l2))), .inl 0]) (pc' := 91) (L' := (q_L [(0, .inr (.inr (some (0, 0)))), (2, .inr (.inr (some (16, l2)))), (3, .inl l3)])) (rest := []) (σ' := q6) (fun _ => rfl) (q_ex_dd (JB_placeDraft_e hq7) (Nat.le_of_ble_eq_true rfl)) rfl ?_
    cases h
    exact ⟨1, rfl⟩
theorem JB_swap_b0_e {n : Nat} {r0 : (Int32 ⊕ Nat) × J} {f : Nat} {l1 : Int32} {σ : J} (h : JB_swap_b0 n f l1 σ = some r0) : q_ex q_pr n 10 34 0 (q_L [(0, .inr (.inr (some (0, 0)))), (1, .inl l1)]) [] σ (JB_swap_r r0) := by
  unfold JB_swap_b0 at h
  obtain ⟨q1, hq1, h⟩ := Option.bind_eq_some_iff.mp h
  obtain ⟨q1, σ1⟩ := q1
  cases q1 with
  | inr k0 =>
    cases h
    exact q_ex_cx 3 (k1 := 24) (vs := [.inr (.inr (some (0, 0))), .inl l1]) (pc' := 5) (L' := (q_L [(0, .inr (.inr (some (0, 0)))), (1, .inl l1)])) (rest := []) (σ' := σ) (fun _ => rfl) (q_ex_dd (JB_readySession_e hq1) (Nat.le_of_ble_eq_true rfl))
  | inl r1 =>
    refine q_by h (fun hy h => ?_)
    refine q_ex_ca 3 (k1 := 24) (vs := [.inr (.inr (some (0, 0))), .inl l1]) (pc' := 5) (L' := (q_L [(0, .inr (.inr (some (0, 0)))), (1, .inl l1)])) (rest := []) (σ' := σ) (fun _ => rfl) (q_ex_dd (JB_readySession_e hq1) (Nat.le_of_ble_eq_true rfl)) hy ?_
    refine q_ex_br 5 (c := (σ1.1 5 0 (20 + r1)) = 0) (pc1 := 24) (pc2 := 16) (L' := (q_s1 (q_L [(0, .inr (.inr (some (0, 0)))), (1, .inl l1)]) 2 (.inr (.inr (some (16, r1)))))) (st' := []) (σ' := σ1) (fun _ => rfl) (fun hc => ?_) (fun hc => ?_)
    · rw [if_pos hc] at h
      exact q_ex_ll (JB_swap_b24_e h) trivial
    · rw [if_neg hc] at h
      obtain ⟨q2, hq2, h⟩ := Option.bind_eq_some_iff.mp h
      refine q_ex_ca 3 (k1 := 68) (vs := [.inr (.inr (some (16, r1))), .inl 1]) (pc' := 21) (L' := (q_s1 (q_L [(0, .inr (.inr (some (0, 0)))), (1, .inl l1)]) 2 (.inr (.inr (some (16, r1)))))) (rest := []) (σ' := σ1) (fun _ => rfl) (q_ex_dd (Session_hasPatterns_e hq2) (Nat.le_of_ble_eq_true rfl)) rfl ?_
      refine q_ex_br 1 (c := q2.1 = 0) (pc1 := 24) (pc2 := 32) (L' := (q_s1 (q_L [(0, .inr (.inr (some (0, 0)))), (1, .inl l1)]) 2 (.inr (.inr (some (16, r1)))))) (st' := []) (σ' := q2.2) (fun _ => rfl) (fun hc => ?_) (fun hc => ?_)
      · rw [if_pos hc] at h
        exact q_ex_ll (JB_swap_b24_e h) trivial
      · rw [if_neg hc] at h
        obtain ⟨q3, hq3, h⟩ := Option.bind_eq_some_iff.mp h
        refine q_ex_ca 4 (k1 := 27) (vs := [.inr (.inr (some (0, 0))), .inr (.inr (some (16, r1))), .inl 1]) (pc' := 38) (L' := (q_s1 (q_L [(0, .inr (.inr (some (0, 0)))), (1, .inl l1)]) 2 (.inr (.inr (some (16, r1)))))) (rest := []) (σ' := q2.2) (fun _ => rfl) (q_ex_dd (JB_searchFor_e hq3) (Nat.le_of_ble_eq_true rfl)) rfl ?_
        refine q_ex_br 3 (c := q3.1 = 0) (pc1 := 68) (pc2 := 43) (L' := (q_s1 (q_s1 (q_L [(0, .inr (.inr (some (0, 0)))), (1, .inl l1)]) 2 (.inr (.inr (some (16, r1))))) 3 (.inl q3.1))) (st' := []) (σ' := q3.2) (fun _ => rfl) (fun hc => ?_) (fun hc => ?_)
        · rw [if_pos hc] at h
          exact q_ex_ll (JB_swap_b68_e h) ⟨rfl, rfl, rfl, trivial⟩
        · rw [if_neg hc] at h
          refine q_ex_br 3 (c := (q3.2.1 16 4 r1) ≤ 0) (pc1 := 68) (pc2 := 50) (L' := (q_s1 (q_s1 (q_L [(0, .inr (.inr (some (0, 0)))), (1, .inl l1)]) 2 (.inr (.inr (some (16, r1))))) 3 (.inl q3.1))) (st' := []) (σ' := q3.2) (fun _ => rfl) (fun hc => ?_) (fun hc => ?_)
          · rw [if_pos hc] at h
            exact q_ex_ll (JB_swap_b68_e h) ⟨rfl, rfl, rfl, trivial⟩
          · rw [if_neg hc] at h
            obtain ⟨q4, hq4, h⟩ := Option.bind_eq_some_iff.mp h
            refine q_ex_ca 3 (k1 := 40) (vs := [.inr (.inr (some (2, 0)))]) (pc' := 57) (L' := (q_s1 (q_s1 (q_L [(0, .inr (.inr (some (0, 0)))), (1, .inl l1)]) 2 (.inr (.inr (some (16, r1))))) 3 (.inl q3.1))) (rest := []) (σ' := q3.2) (fun _ => rfl) (q_ex_dd (Board_isFull_e hq4) (Nat.le_of_ble_eq_true rfl)) rfl ?_
            refine q_ex_br 1 (c := q4.1 = 0) (pc1 := 68) (pc2 := 60) (L' := (q_s1 (q_s1 (q_L [(0, .inr (.inr (some (0, 0)))), (1, .inl l1)]) 2 (.inr (.inr (some (16, r1))))) 3 (.inl q3.1))) (st' := []) (σ' := q4.2) (fun _ => rfl) (fun hc => ?_) (fun hc => ?_)
            · rw [if_pos hc] at h
              exact q_ex_ll (JB_swap_b68_e h) ⟨rfl, rfl, rfl, trivial⟩
            · rw [if_neg hc] at h
              cases h
              exact ⟨1, rfl⟩
theorem JB_swap_e {n : Nat} {r0 : (Int32 ⊕ Nat) × J} {f : Nat} {x1 : Int32} {σ : J} (h : JB_swap n f x1 σ = some r0) : q_ex q_pr n 10 34 0 (q_args 0 [.inr (.inr (some (0, 0))), .inl x1]) [] σ (JB_swap_r r0) := q_ex_ll (JB_swap_b0_e h) ⟨rfl, rfl, trivial⟩
def JB_tick_r : (Int32 ⊕ Nat) × J → Res := fun q => ((match q.1 with | .inl r => .inl (some (.inl r)) | .inr e => .inr e), q.2)
-- 35: JB_tick
def JB_tick_b102 (n : Nat) (f : Nat) (l2 : Int32) (σ : J) : Option ((Int32 ⊕ Nat) × J) := some (.inl l2, σ)
def JB_tick_b88 (n : Nat) (k32 : Int32 → Int32 → Int32 → J → Option ((Int32 ⊕ Nat) × J)) (f : Nat) (l2 : Int32) (l3 : Int32) (l4 : Int32) (σ : J) : Option ((Int32 ⊕ Nat) × J) := k32 l2 l3 (l4 + 1) σ
def JB_tick_b32 (n : Nat) (k32 : Int32 → Int32 → Int32 → J → Option ((Int32 ⊕ Nat) × J)) (f : Nat) (l2 : Int32) (l3 : Int32) (l4 : Int32) (σ : J) : Option ((Int32 ⊕ Nat) × J) := if (σ.1 2 1 0) ≤ l4 then if l3 = 0 then JB_tick_b102 n f l2 σ else (JB_serveLine n f σ).bind fun q3 => JB_tick_b102 n f l2 q3 else if q_in l4 20 = true then if Nat.blt (σ.2.2.2 3 0 l4.toNatClampNeg) 20 = true then if (σ.1 4 0 (σ.2.2.2 3 0 l4.toNatClampNeg)) = 0 then JB_tick_b88 n k32 f l2 l3 l4 σ else (Tuple_isOverAt n (σ.2.2.2 3 0 l4.toNatClampNeg) (σ.1 0 5 0) σ).bind fun q4 => if q4.1 = 0 then JB_tick_b88 n k32 f l2 l3 l4 q4.2 else (JB_endTuple n f (σ.2.2.2 3 0 l4.toNatClampNeg) q4.2).bind fun q5 => JB_tick_b88 n k32 f (l2 + 1) (l3 ||| q5.1) l4 q5.2 else none else none
def JB_tick_L32 (n : Nat) : Nat → Int32 → Int32 → Int32 → J → Option ((Int32 ⊕ Nat) × J)
  | 0 => fun _ _ _ _ => none
  | f + 1 => fun l2 l3 l4 σ => JB_tick_b32 n (JB_tick_L32 n f) f l2 l3 l4 σ
def JB_tick_b0 (n : Nat) (f : Nat) (l1 : Int32) (σ : J) : Option ((Int32 ⊕ Nat) × J) := (JB_isSpan n l1 σ).bind fun q1 => if q1.1 = 0 then some (.inr 3, q1.2) else q_bs (q_sI q1.2 0 5 0 ((q1.2.1 0 5 0) + l1)) fun σ2 => JB_tick_L32 n f 0 0 0 σ2
def JB_tick (n : Nat) (f : Nat) (x1 : Int32) (σ : J) : Option ((Int32 ⊕ Nat) × J) := JB_tick_b0 n f x1 σ
theorem JB_tick_b102_e {n : Nat} {r0 : (Int32 ⊕ Nat) × J} {f : Nat} {l2 : Int32} {σ : J} (h : JB_tick_b102 n f l2 σ = some r0) : q_ex q_pr n 9 35 102 (q_L [(2, .inl l2)]) [] σ (JB_tick_r r0) := by
  unfold JB_tick_b102 at h
  refine q_ex_go 1 (pc' := 103) (L' := (q_L [(2, .inl l2)])) (st' := [.inl l2]) (σ' := σ) (fun _ => rfl) ?_
  cases h
  exact ⟨1, rfl⟩
theorem JB_tick_b88_e {n : Nat} {r0 : (Int32 ⊕ Nat) × J} {k32 : Int32 → Int32 → Int32 → J → Option ((Int32 ⊕ Nat) × J)} {f : Nat} {l2 : Int32} {l3 : Int32} {l4 : Int32} {σ : J} (hk32 : ∀ {l2 : Int32} {l3 : Int32} {l4 : Int32} {σ : J}, k32 l2 l3 l4 σ = some r0 → q_ex q_pr n 9 35 32 (q_L [(0, .inr (.inr (some (0, 0)))), (2, .inl l2), (3, .inl l3), (4, .inl l4)]) [] σ (JB_tick_r r0)) (h : JB_tick_b88 n k32 f l2 l3 l4 σ = some r0) : q_ex q_pr n 9 35 88 (q_L [(0, .inr (.inr (some (0, 0)))), (2, .inl l2), (3, .inl l3), (4, .inl l4)]) [] σ (JB_tick_r r0) := by
  unfold JB_tick_b88 at h
  refine q_ex_go 2 (pc' := 32) (L' := (q_s1 (q_L [(0, .inr (.inr (some (0, 0)))), (2, .inl l2), (3, .inl l3), (4, .inl l4)]) 4 (.inl (l4 + 1)))) (st' := []) (σ' := σ) (fun _ => rfl) ?_
  exact q_ex_ll (hk32 h) ⟨rfl, rfl, rfl, rfl, trivial⟩
theorem JB_tick_b32_e {n : Nat} {r0 : (Int32 ⊕ Nat) × J} {k32 : Int32 → Int32 → Int32 → J → Option ((Int32 ⊕ Nat) × J)} {f : Nat} {l2 : Int32} {l3 : Int32} {l4 : Int32} {σ : J} (hk32 : ∀ {l2 : Int32} {l3 : Int32} {l4 : Int32} {σ : J}, k32 l2 l3 l4 σ = some r0 → q_ex q_pr n 9 35 32 (q_L [(0, .inr (.inr (some (0, 0)))), (2, .inl l2), (3, .inl l3), (4, .inl l4)]) [] σ (JB_tick_r r0)) (h : JB_tick_b32 n k32 f l2 l3 l4 σ = some r0) : q_ex q_pr n 9 35 32 (q_L [(0, .inr (.inr (some (0, 0)))), (2, .inl l2), (3, .inl l3), (4, .inl l4)]) [] σ (JB_tick_r r0) := by
  unfold JB_tick_b32 at h
  refine q_ex_br 5 (c := (σ.1 2 1 0) ≤ l4) (pc1 := 94) (pc2 := 44) (L' := (q_L [(0, .inr (.inr (some (0, 0)))), (2, .inl l2), (3, .inl l3), (4, .inl l4)])) (st' := []) (σ' := σ) (fun _ => rfl) (fun hc => ?_) (fun hc => ?_)
  · rw [if_pos hc] at h
    refine q_ex_br 2 (c := l3 = 0) (pc1 := 102) (pc2 := 98) (L' := (q_L [(0, .inr (.inr (some (0, 0)))), (2, .inl l2), (3, .inl l3), (4, .inl l4)])) (st' := []) (σ' := σ) (fun _ => rfl) (fun hc => ?_) (fun hc => ?_)
    · rw [if_pos hc] at h
      exact q_ex_ll (JB_tick_b102_e h) ⟨rfl, trivial⟩
    · rw [if_neg hc] at h
      obtain ⟨q3, hq3, h⟩ := Option.bind_eq_some_iff.mp h
      refine q_ex_ca 2 (k1 := 29) (vs := [.inr (.inr (some (0, 0)))]) (pc' := 102) (L' := (q_L [(0, .inr (.inr (some (0, 0)))), (2, .inl l2), (3, .inl l3), (4, .inl l4)])) (rest := []) (σ' := σ) (fun _ => rfl) (q_ex_dd (JB_serveLine_e hq3) (Nat.le_of_ble_eq_true rfl)) rfl ?_
      exact q_ex_ll (JB_tick_b102_e h) ⟨rfl, trivial⟩
  · rw [if_neg hc] at h
    refine q_by h (fun hz h => ?_)
    refine q_by h (fun hy h => ?_)
    refine q_ex_g2 5 (pc' := 54) (L' := (q_L [(0, .inr (.inr (some (0, 0)))), (2, .inl l2), (3, .inl l3), (4, .inl l4)])) (st' := [.inr (.inr (some (4, σ.2.2.2 3 0 l4.toNatClampNeg)))]) (σ' := σ) (fun _ => rfl) hz hy ?_
    refine q_ex_br 4 (c := (σ.1 4 0 (σ.2.2.2 3 0 l4.toNatClampNeg)) = 0) (pc1 := 88) (pc2 := 64) (L' := (q_s1 (q_L [(0, .inr (.inr (some (0, 0)))), (2, .inl l2), (3, .inl l3), (4, .inl l4)]) 5 (.inr (.inr (some (4, σ.2.2.2 3 0 l4.toNatClampNeg)))))) (st' := []) (σ' := σ) (fun _ => rfl) (fun hc => ?_) (fun hc => ?_)
    · rw [if_pos hc] at h
      exact q_ex_ll (JB_tick_b88_e hk32 h) ⟨rfl, rfl, rfl, rfl, trivial⟩
    · rw [if_neg hc] at h
      obtain ⟨q4, hq4, h⟩ := Option.bind_eq_some_iff.mp h
      refine q_ex_ca 4 (k1 := 71) (vs := [.inr (.inr (some (4, σ.2.2.2 3 0 l4.toNatClampNeg))), .inl (σ.1 0 5 0)]) (pc' := 73) (L' := (q_s1 (q_L [(0, .inr (.inr (some (0, 0)))), (2, .inl l2), (3, .inl l3), (4, .inl l4)]) 5 (.inr (.inr (some (4, σ.2.2.2 3 0 l4.toNatClampNeg)))))) (rest := []) (σ' := σ) (fun _ => rfl) (q_ex_dd (Tuple_isOverAt_e hq4) (Nat.le_of_ble_eq_true rfl)) rfl ?_
      refine q_ex_br 1 (c := q4.1 = 0) (pc1 := 88) (pc2 := 76) (L' := (q_s1 (q_L [(0, .inr (.inr (some (0, 0)))), (2, .inl l2), (3, .inl l3), (4, .inl l4)]) 5 (.inr (.inr (some (4, σ.2.2.2 3 0 l4.toNatClampNeg)))))) (st' := []) (σ' := q4.2) (fun _ => rfl) (fun hc => ?_) (fun hc => ?_)
      · rw [if_pos hc] at h
        exact q_ex_ll (JB_tick_b88_e hk32 h) ⟨rfl, rfl, rfl, rfl, trivial⟩
      · rw [if_neg hc] at h
        obtain ⟨q5, hq5, h⟩ := Option.bind_eq_some_iff.mp h
        refine q_ex_ca 4 (k1 := 6) (vs := [.inr (.inr (some (0, 0))), .inr (.inr (some (4, σ.2.2.2 3 0 l4.toNatClampNeg)))]) (pc' := 83) (L' := (q_s1 (q_L [(0, .inr (.inr (some (0, 0)))), (2, .inl l2), (3, .inl l3), (4, .inl l4)]) 5 (.inr (.inr (some (4, σ.2.2.2 3 0 l4.toNatClampNeg)))))) (rest := [.inl l3]) (σ' := q4.2) (fun _ => rfl) (q_ex_dd (JB_endTuple_e hq5) (Nat.le_of_ble_eq_true rfl)) rfl ?_
        refine q_ex_go 3 (pc' := 88) (L' := (q_s1 (q_s1 (q_s1 (q_L [(0, .inr (.inr (some (0, 0)))), (2, .inl l2), (3, .inl l3), (4, .inl l4)]) 5 (.inr (.inr (some (4, σ.2.2.2 3 0 l4.toNatClampNeg))))) 3 (.inl (l3 ||| q5.1))) 2 (.inl (l2 + 1)))) (st' := []) (σ' := q5.2) (fun _ => rfl) ?_
        exact q_ex_ll (JB_tick_b88_e hk32 h) ⟨rfl, rfl, rfl, rfl, trivial⟩
theorem JB_tick_L32_e {n : Nat} {r0 : (Int32 ⊕ Nat) × J} (f : Nat) : ∀ {l2 : Int32} {l3 : Int32} {l4 : Int32} {σ : J}, JB_tick_L32 n f l2 l3 l4 σ = some r0 → q_ex q_pr n 9 35 32 (q_L [(0, .inr (.inr (some (0, 0)))), (2, .inl l2), (3, .inl l3), (4, .inl l4)]) [] σ (JB_tick_r r0) := by
  induction f with
  | zero => intro l2 l3 l4 σ h; cases h
  | succ f ih =>
    intro l2 l3 l4 σ h
    exact JB_tick_b32_e (f := f)  (fun h => ih h) h
theorem JB_tick_b0_e {n : Nat} {r0 : (Int32 ⊕ Nat) × J} {f : Nat} {l1 : Int32} {σ : J} (h : JB_tick_b0 n f l1 σ = some r0) : q_ex q_pr n 9 35 0 (q_L [(0, .inr (.inr (some (0, 0)))), (1, .inl l1)]) [] σ (JB_tick_r r0) := by
  unfold JB_tick_b0 at h
  obtain ⟨q1, hq1, h⟩ := Option.bind_eq_some_iff.mp h
  refine q_ex_ca 2 (k1 := 17) (vs := [.inl l1]) (pc' := 4) (L' := (q_L [(0, .inr (.inr (some (0, 0)))), (1, .inl l1)])) (rest := []) (σ' := σ) (fun _ => rfl) (q_ex_dd (JB_isSpan_e hq1) (Nat.le_of_ble_eq_true rfl)) rfl ?_
  refine q_ex_br 1 (c := q1.1 = 0) (pc1 := 7) (pc2 := 15) (L' := (q_L [(0, .inr (.inr (some (0, 0)))), (1, .inl l1)])) (st' := []) (σ' := q1.2) (fun _ => rfl) (fun hc => ?_) (fun hc => ?_)
  · rw [if_pos hc] at h
    cases h
    exact ⟨1, rfl⟩
  · rw [if_neg hc] at h
    refine q_ex_go 6 (pc' := 25) (L' := (q_L [(0, .inr (.inr (some (0, 0)))), (1, .inl l1)])) (st' := []) (σ' := (q_sI q1.2 0 5 0 ((q1.2.1 0 5 0) + l1))) (fun _ => rfl) ?_
    refine q_nm (G := fun τ => q_ex q_pr n _ 35 25 (q_L [(0, .inr (.inr (some (0, 0)))), (1, .inl l1)]) [] τ _) h (fun σ2 h => ?_)
    refine q_ex_go 6 (pc' := 32) (L' := (q_s1 (q_s1 (q_s1 (q_L [(0, .inr (.inr (some (0, 0)))), (1, .inl l1)]) 2 (.inl 0)) 3 (.inl 0)) 4 (.inl 0))) (st' := []) (σ' := σ2) (fun _ => rfl) ?_
    exact q_ex_ll (JB_tick_L32_e f h) ⟨rfl, rfl, rfl, rfl, trivial⟩
theorem JB_tick_e {n : Nat} {r0 : (Int32 ⊕ Nat) × J} {f : Nat} {x1 : Int32} {σ : J} (h : JB_tick n f x1 σ = some r0) : q_ex q_pr n 9 35 0 (q_args 0 [.inr (.inr (some (0, 0))), .inl x1]) [] σ (JB_tick_r r0) := q_ex_ll (JB_tick_b0_e h) ⟨rfl, rfl, trivial⟩
