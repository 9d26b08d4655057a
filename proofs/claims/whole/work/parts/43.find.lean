/-! The class's tuples and findings. Ours. -/
theorem and1_0 : ((0 : Int32) &&& 1 = 0) = True := propext ⟨fun _ => trivial, fun _ => rfl⟩
theorem and1_1 : ((1 : Int32) &&& 1 = 1) = True := propext ⟨fun _ => trivial, fun _ => rfl⟩
theorem Tuple_isPutIn_q {n z : Nat} {s d : Int32} {σ : J} : Tuple_isPutIn n z s d σ = some (b01 (!decide (σ.1 4 0 z = 0) && decide (σ.1 4 3 z = s) && decide (σ.1 4 4 z = d)), σ) := by
  unfold Tuple_isPutIn Tuple_isPutIn_b0 Tuple_isPutIn_b27 Tuple_isPutIn_b28
  by_cases h0 : σ.1 4 0 z = 0 <;> by_cases h1 : σ.1 4 3 z = s <;> by_cases h2 : σ.1 4 4 z = d <;> simp [h0, h1, h2, b01]
theorem Tuple_isTakenBy_q {n z : Nat} {s d : Int32} {σ : J} : Tuple_isTakenBy n z s d σ = some (b01 (!decide (σ.1 4 0 z = 0) && decide (σ.1 4 5 z = s) && decide (σ.1 4 6 z = d)), σ) := by
  unfold Tuple_isTakenBy Tuple_isTakenBy_b0 Tuple_isTakenBy_b27 Tuple_isTakenBy_b28
  by_cases h0 : σ.1 4 0 z = 0 <;> by_cases h1 : σ.1 4 5 z = s <;> by_cases h2 : σ.1 4 6 z = d <;> simp [h0, h1, h2, b01]
theorem Tuple_isTaken_q {n z : Nat} {σ : J} : Tuple_isTaken n z σ = some (b01 (!decide (σ.1 4 6 z = im)), σ) := by
  unfold Tuple_isTaken Tuple_isTaken_b0 Tuple_isTaken_b13 im
  by_cases h0 : σ.1 4 6 z = -1 <;> simp [h0, b01]
theorem Tuple_isSeenBy_q {n z : Nat} {s : Int32} {σ : J} : Tuple_isSeenBy n z s σ = some (b01 (!decide (σ.1 4 0 z = 0) && decide (σ.1 4 6 z = im) && (decide (σ.1 4 4 z = im) || decide (σ.1 4 3 z = s))), σ) := by
  unfold Tuple_isSeenBy Tuple_isSeenBy_b0
  rw [Tuple_isTaken_q]
  unfold Tuple_isSeenBy_b30 Tuple_isSeenBy_b34 Tuple_isSeenBy_b35 im
  by_cases h0 : σ.1 4 0 z = 0 <;> by_cases h1 : σ.1 4 6 z = -1 <;> by_cases h2 : σ.1 4 4 z = -1 <;> by_cases h3 : σ.1 4 3 z = s <;> simp [h0, h1, h2, h3, b01]
theorem Tuple_isOverAt_q {n z : Nat} {t : Int32} {σ : J} : Tuple_isOverAt n z t σ = some (b01 (!decide (σ.1 4 2 z = 0) && !decide (t < σ.1 4 2 z)), σ) := by
  unfold Tuple_isOverAt Tuple_isOverAt_b0 Tuple_isOverAt_b19 Tuple_isOverAt_b20
  by_cases h0 : σ.1 4 2 z = 0
  · simp [h0, b01]
  · by_cases h1 : t < σ.1 4 2 z
    · simp [h0, h1, b01]
    · simp only [h0, h1, if_false, decide_false, Bool.not_false, Bool.and_self]
      rfl
theorem Tuple_giveBack_q {n z : Nat} {σ : J} : Tuple_giveBack n z σ = some (q_sI (q_sI σ 4 5 z im) 4 6 z im) := rfl
theorem Tuple_putInto_q {n z : Nat} {s d : Int32} {σ : J} : Tuple_putInto n z s d σ = some (q_sI (q_sI σ 4 3 z s) 4 4 z d) := rfl
theorem Tuple_putOutside_q {n z : Nat} {σ : J} : Tuple_putOutside n z σ = some (q_sI (q_sI σ 4 3 z im) 4 4 z im) := rfl
theorem Tuple_takeFor_q {n z : Nat} {s d : Int32} {σ : J} : Tuple_takeFor n z s d σ = some (if d = 0 then q_sI σ 4 0 z (i 0) else q_sI (q_sI σ 4 5 z s) 4 6 z d) := by
  unfold Tuple_takeFor Tuple_takeFor_b0 Tuple_takeFor_b22
  by_cases h : d = 0
  · rw [if_pos h, if_pos h]
    rfl
  · rw [if_neg h, if_neg h]
    rfl
/-- a tuple on the board, as it lies in its object -/
def cT (σ : J) (z : Nat) (t : Tp) : Prop := σ.1 4 0 z = i 1 ∧ σ.1 4 1 z = t_num t ∧ σ.1 4 2 z = t_end t ∧ σ.1 4 3 z = t_pS t ∧ σ.1 4 4 z = t_pD t ∧ σ.1 4 5 z = t_tS t ∧ σ.1 4 6 z = t_tD t ∧ cF σ z (t_fs t)
theorem cT.fr {Z : Nat → Nat → Prop} {σ τ : J} {z : Nat} {t : Tp} (h : cT σ z t) (hf : fr Z σ τ) (h4 : ¬ Z 4 z) (h5 : ¬ Z 5 z) (h6 : ¬ Z 6 z) (h7 : ¬ Z 7 z) : cT τ z t := by
  unfold cT
  rw [(hf 4 z h4).1, (hf 4 z h4).1, (hf 4 z h4).1, (hf 4 z h4).1, (hf 4 z h4).1, (hf 4 z h4).1, (hf 4 z h4).1]
  exact ⟨h.1, h.2.1, h.2.2.1, h.2.2.2.1, h.2.2.2.2.1, h.2.2.2.2.2.1, h.2.2.2.2.2.2.1, h.2.2.2.2.2.2.2.fr hf h5 h6 h7⟩
theorem i10 : (i 1 = 0) = False := propext ⟨fun h => absurd h (by decide), False.elim⟩
theorem i00 : (i 0 = 0) = True := propext ⟨fun _ => trivial, fun _ => rfl⟩
theorem cT.isP {n z : Nat} {s d : Int32} {σ : J} {t : Tp} (h : cT σ z t) : Tuple_isPutIn n z s d σ = some (b01 (a_isP s d t), σ) := by
  rw [Tuple_isPutIn_q, h.1, h.2.2.2.1, h.2.2.2.2.1]
  simp only [i10, decide_false, Bool.not_false, Bool.true_and]
  rfl
theorem cT.isT {n z : Nat} {s d : Int32} {σ : J} {t : Tp} (h : cT σ z t) : Tuple_isTakenBy n z s d σ = some (b01 (a_isT s d t), σ) := by
  rw [Tuple_isTakenBy_q, h.1, h.2.2.2.2.2.1, h.2.2.2.2.2.2.1]
  simp only [i10, decide_false, Bool.not_false, Bool.true_and]
  rfl
theorem cT.sees {n z : Nat} {s : Int32} {σ : J} {t : Tp} (h : cT σ z t) : Tuple_isSeenBy n z s σ = some (b01 (a_sees s t), σ) := by
  rw [Tuple_isSeenBy_q, h.1, h.2.2.2.1, h.2.2.2.2.1, h.2.2.2.2.2.2.1]
  simp only [i10, decide_false, Bool.not_false, Bool.true_and]
  rfl
theorem off_isP {n z : Nat} {s d : Int32} {σ : J} (h : σ.1 4 0 z = i 0) : Tuple_isPutIn n z s d σ = some (b01 false, σ) := by
  rw [Tuple_isPutIn_q, h]
  simp only [i00, decide_true, Bool.not_true, Bool.false_and]
theorem off_isT {n z : Nat} {s d : Int32} {σ : J} (h : σ.1 4 0 z = i 0) : Tuple_isTakenBy n z s d σ = some (b01 false, σ) := by
  rw [Tuple_isTakenBy_q, h]
  simp only [i00, decide_true, Bool.not_true, Bool.false_and]
theorem off_sees {n z : Nat} {s : Int32} {σ : J} (h : σ.1 4 0 z = i 0) : Tuple_isSeenBy n z s σ = some (b01 false, σ) := by
  rw [Tuple_isSeenBy_q, h]
  simp only [i00, decide_true, Bool.not_true, Bool.false_and]
/-- a finding -/
def cN (σ : J) (y : Nat) (r : Fq) : Prop := (∀ j, j < 3 → σ.2.1 13 y j = r.1.getD j im) ∧ ∃ m, m < 16 ∧ σ.1 12 1 y = i m ∧ ∀ v, v < 4 → r.2 v = if m.testBit v = true then some (σ.2.1 14 y v, σ.2.2.1 15 y v) else none
theorem cN.fr {Z : Nat → Nat → Prop} {σ τ : J} {y : Nat} {r : Fq} (h : cN σ y r) (hf : fr Z σ τ) (h2 : ¬ Z 12 y) (h3 : ¬ Z 13 y) (h4 : ¬ Z 14 y) (h5 : ¬ Z 15 y) : cN τ y r := by
  unfold cN
  rw [(hf 12 y h2).1, (hf 13 y h3).2.1, (hf 14 y h4).2.1, (hf 15 y h5).2.2.1]
  exact h
theorem bit_0 : ∀ m, m < 16 → ∀ v, v < 4 → ((i m &&& (1 <<< (i v &&& 31))) = 0) = (m.testBit v = false) := by
  intro m hm v hv
  have h : ∀ m, m < 16 → ∀ v, v < 4 → (((i m &&& (1 <<< (i v &&& 31))) = 0) ↔ (m.testBit v = false)) := by decide +kernel
  exact propext (h m hm v hv)
theorem bit_o : ∀ m, m < 16 → ∀ v, v < 4 → (i m ||| (1 <<< (i v &&& 31))) = i (m ||| 2 ^ v) ∧ (m ||| 2 ^ v) < 16 ∧ ∀ w, w < 4 → (m ||| 2 ^ v).testBit w = (decide (w = v) || m.testBit w) := by decide +kernel
theorem bit_s : ∀ m, m < 16 → ∀ v, v < 4 → (((i m >>> (i v &&& 31)) &&& 1) = 1) = (m.testBit v = true) := by
  intro m hm v hv
  have h : ∀ m, m < 16 → ∀ v, v < 4 → ((((i m >>> (i v &&& 31)) &&& 1) = 1) ↔ (m.testBit v = true)) := by decide +kernel
  exact propext (h m hm v hv)
theorem Finding_clear_s {n f : Nat} {σ : J} {y : Nat} (hf : 5 ≤ f) : wp (Finding_clear n f y σ) (fun τ => cN τ y ([], bd0) ∧ fr (fun a b => 12 ≤ a ∧ a ≤ 13 ∧ b = y) σ τ) := by
  obtain ⟨f, rfl⟩ : ∃ g, f = g + 4 := ⟨f - 4, by omega⟩
  unfold Finding_clear Finding_clear_b0
  simp (disch := omega) only [Finding_clear_L2, Finding_clear_b2, sI1, sI2, sA1, sA2, sA3, sL1, sL2, sL3, sL4, sP1, sP2, sP3, sP4, i_in, i_n, i_lt, i_le, i_eq, i_add, i_sub, i_m, m_i, im_lt, im_le, lt_im, le_im, i_addm, m_in, i_cpo, l0, l1, l2, l3, l4, l5, l6, l7, l8, l9, l10, l12, l20, l100, l1000, lm, lo, bs_eq, some_bind, wp_some, if_true, if_false, if_pos, if_neg, and_self, blt_eq, eq_self]
  refine ⟨⟨fun j hj => ?_, 0, by decide, ?_, fun v hv => ?_⟩, (((fr.rf.sA (by omega)).sA (by omega)).sA (by omega)).sI (by omega)⟩
  · simp (disch := omega) only [sI1, sI2, sA1, sA2, sA3, sL1, sL2, sL3, sL4, sP1, sP2, sP3, sP4, bs_eq, some_bind, wp_some, if_true, if_false, if_pos, if_neg, and_self, blt_eq, eq_self]
    match j, hj with
    | 0, _ => rfl
    | 1, _ => rfl
    | 2, _ => rfl
  · simp (disch := omega) only [sI1, sI2, sA1, sA2, sA3, sL1, sL2, sL3, sL4, sP1, sP2, sP3, sP4, bs_eq, some_bind, wp_some, if_true, if_false, if_pos, if_neg, and_self, blt_eq, eq_self]
  · rw [Nat.zero_testBit]
    rfl
theorem Finding_hasNumber_s {n f : Nat} {σ : J} {y : Nat} {r : Fq} {N : Int32} (hf : 5 ≤ f) (h : cN σ y r) (hr : r.1.length ≤ 3) (hN : N ≠ im) : Finding_hasNumber n f y N σ = some (b01 (decide (N ∈ r.1)), σ) := by
  obtain ⟨f, rfl⟩ : ∃ g, f = g + 4 := ⟨f - 4, by omega⟩
  have h0 := h.1 0 (by decide)
  have h1 := h.1 1 (by decide)
  have h2 := h.1 2 (by decide)
  have hm : ∀ {x : Int32}, x = im → (x = N) = False := fun e => propext ⟨fun q => hN (q ▸ e), False.elim⟩
  unfold Finding_hasNumber Finding_hasNumber_b0
  simp only [Finding_hasNumber_L2, Finding_hasNumber_b2, and1_0, and1_1]
  simp (disch := omega) only [h0, h1, h2, i_in, i_n, i_lt, i_le, i_eq, i_add, i_sub, i_m, m_i, im_lt, im_le, lt_im, le_im, i_addm, m_in, i_cpo, l0, l1, l2, l3, l4, l5, l6, l7, l8, l9, l10, l12, l20, l100, l1000, lm, lo, bs_eq, some_bind, wp_some, if_true, if_false, if_pos, if_neg, and_self, blt_eq, eq_self]
  obtain ⟨nums, bd⟩ := r
  have e0 : (im = N) = False := hm rfl
  match nums, hr with
  | [], _ =>
    show (if im = N then _ else if im = N then _ else if im = N then _ else _) = _
    simp only [e0, if_false]
    rfl
  | [a], _ =>
    show (if a = N then _ else if im = N then _ else if im = N then _ else _) = _
    by_cases ha : a = N <;> simp [ha, e0, b01, i] <;> first | rfl | (intro q; exact absurd q.symm ha) | skip
  | [a, b], _ =>
    show (if a = N then _ else if b = N then _ else if im = N then _ else _) = _
    by_cases ha : a = N <;> by_cases hb : b = N <;> simp [ha, hb, e0, b01, i] <;> exact ⟨fun q => ha q.symm, fun q => hb q.symm⟩
  | [a, b, c], _ =>
    show (if a = N then _ else if b = N then _ else if c = N then _ else _) = _
    by_cases ha : a = N <;> by_cases hb : b = N <;> by_cases hc : c = N <;> simp [ha, hb, hc, e0, b01, i] <;> exact ⟨fun q => ha q.symm, fun q => hb q.symm, fun q => hc q.symm⟩

theorem Finding_numberFor_s {n : Nat} {σ : J} {y : Nat} {r : Fq} {p : Nat} (h : cN σ y r) (hp : p < 3) : Finding_numberFor n y (i p) σ = some (r.1.getD p im, σ) := by
  unfold Finding_numberFor Finding_numberFor_b0 Finding_numberFor_b18 Finding_numberFor_b19
  simp (disch := omega) only [h.1 p hp, i_in, i_n, i_lt, i_le, i_eq, i_add, i_sub, i_m, m_i, im_lt, im_le, lt_im, le_im, i_addm, m_in, i_cpo, l0, l1, l2, l3, l4, l5, l6, l7, l8, l9, l10, l12, l20, l100, l1000, lm, lo, bs_eq, some_bind, wp_some, if_true, if_false, if_pos, if_neg, and_self, blt_eq, eq_self]
theorem Finding_isBound_s {n : Nat} {σ : J} {y : Nat} {r : Fq} {v : Nat} (h : cN σ y r) (hv : v < 4) : Finding_isBound n y (i v) σ = some (b01 (r.2 v).isSome, σ) := by
  obtain ⟨h1, m, hm, h2, h3⟩ := h
  have e := h3 v hv
  unfold Finding_isBound Finding_isBound_b0 Finding_isBound_b25 Finding_isBound_b26
  rw [h2, e]
  simp only [bit_s m hm v hv, and1_0, and1_1]
  rw [if_neg (by rw [l0, i_lt (by omega) (by decide)]; omega), if_neg (by rw [l4, i_le (by decide) (by omega)]; omega)]
  cases m.testBit v <;> rfl
theorem Finding_kindOf_s {n : Nat} {σ : J} {y : Nat} {r : Fq} {v : Nat} (h : cN σ y r) (hv : v < 4) : Finding_kindOf n y (i v) σ = some (match r.2 v with | some x => x.1 | none => im, σ) := by
  unfold Finding_kindOf Finding_kindOf_b0 Finding_kindOf_b18
  rw [Finding_isBound_s h hv, some_bind]
  obtain ⟨h1, m, hm, h2, h3⟩ := h
  rw [h3 v hv]
  simp (disch := omega) only [i_in, i_n, b01_0]
  cases m.testBit v
  · rfl
  · simp only [if_true, Option.isSome, if_false, if_pos hv]
    rfl
theorem Finding_valueOf_s {n : Nat} {σ : J} {y : Nat} {r : Fq} {v : Nat} (h : cN σ y r) (hv : v < 4) : Finding_valueOf n y (i v) σ = some (match r.2 v with | some x => x.2 | none => 0, σ) := by
  unfold Finding_valueOf Finding_valueOf_b0 Finding_valueOf_b18
  rw [Finding_isBound_s h hv, some_bind]
  obtain ⟨h1, m, hm, h2, h3⟩ := h
  rw [h3 v hv]
  simp (disch := omega) only [i_in, i_n, b01_0]
  cases m.testBit v
  · rfl
  · simp only [if_true, Option.isSome, if_false, if_pos hv]
    rfl
theorem Finding_bindOrCompare_s {n : Nat} {σ : J} {y : Nat} {nums : List Int32} {bd : Bd} {v : Nat} {x : FV} (h : cN σ y (nums, bd)) (hv : v < 4) : wp (Finding_bindOrCompare n y (i v) x.1 x.2 σ) (fun q => fr (fun a b => 12 ≤ a ∧ a ≤ 15 ∧ b = y) σ q.2 ∧ match bd v with
    | none => q.1 = b01 true ∧ cN q.2 y (nums, fun w => if w = v then some x else bd w) ∧ q.2.2.1 13 y = σ.2.1 13 y ∧ ∀ w, w ≠ v → q.2.2.1 14 y w = σ.2.1 14 y w ∧ q.2.2.2.1 15 y w = σ.2.2.1 15 y w
    | some z => q.1 = b01 (decide (z = x)) ∧ q.2 = σ) := by
  obtain ⟨h1, m, hm, h2, h3⟩ := h
  have e := h3 v hv
  replace e : bd v = if m.testBit v = true then some (σ.2.1 14 y v, σ.2.2.1 15 y v) else none := e
  unfold Finding_bindOrCompare Finding_bindOrCompare_b0 Finding_bindOrCompare_b51 Finding_bindOrCompare_b9 Finding_bindOrCompare_b76 Finding_bindOrCompare_b77
  rw [if_neg (by rw [l0, i_lt (by omega) (by decide)]; omega), if_pos (by rw [l4, i_lt (by omega) (by decide)]; omega), h2]
  simp only [bit_0 m hm v hv, and1_0, and1_1, if_true, bs_eq]
  rw [e]
  cases hb : m.testBit v with
  | false =>
    obtain ⟨b1, b2, b3⟩ := bit_o m hm v hv
    rw [b1]
    simp (disch := omega) only [sI1, sI2, sA1, sA2, sA3, sL1, sL2, sL3, sL4, sP1, sP2, sP3, sP4, i_in, i_n, bs_eq, some_bind, wp_some, if_true, if_false, if_pos, if_neg, and_self, blt_eq, eq_self, lq_eq, upd, vp_updL]
    refine ⟨((fr.rf.sI (by omega)).sA (by omega)).sL (by omega), rfl, ⟨fun j hj => ?_, _, b2, ?_, fun w hw => ?_⟩, ?_, fun w hw => ?_⟩
    · simp (disch := omega) only [sI1, sI2, sA1, sA2, sA3, sL1, sL2, sL3, sL4, sP1, sP2, sP3, sP4, bs_eq, some_bind, wp_some, if_true, if_false, if_pos, if_neg, and_self, blt_eq, eq_self]
      exact h1 j hj
    · simp (disch := omega) only [sI1, sI2, sA1, sA2, sA3, sL1, sL2, sL3, sL4, sP1, sP2, sP3, sP4, bs_eq, some_bind, wp_some, if_true, if_false, if_pos, if_neg, and_self, blt_eq, eq_self]
    · simp (disch := omega) only [sI1, sI2, sA1, sA2, sA3, sL1, sL2, sL3, sL4, sP1, sP2, sP3, sP4, bs_eq, some_bind, wp_some, if_true, if_false, if_pos, if_neg, and_self, blt_eq, eq_self, b3 w hw]
      by_cases hwv : w = v
      · subst hwv
        simp [upd, vp_updL]
      · simp only [hwv, if_false, decide_false, Bool.false_or, upd, vp_updL]
        exact h3 w hw
    · simp (disch := omega) only [sI1, sI2, sA1, sA2, sA3, sL1, sL2, sL3, sL4, sP1, sP2, sP3, sP4, bs_eq, some_bind, wp_some, if_true, if_false, if_pos, if_neg, and_self, blt_eq, eq_self]
    · simp (disch := omega) only [sI1, sI2, sA1, sA2, sA3, sL1, sL2, sL3, sL4, sP1, sP2, sP3, sP4, bs_eq, some_bind, wp_some, if_true, if_false, if_pos, if_neg, and_self, blt_eq, eq_self, upd, vp_updL]
  | true =>
    simp (disch := omega) only [i_in, i_n, bs_eq, some_bind, wp_some, if_true, if_false, if_pos, if_neg, and_self, blt_eq, eq_self, lq_eq]
    have hp : ∀ {a : Int32} {b : Int64}, decide ((a, b) = x) = (decide (a = x.1) && decide (b = x.2)) := by
      intro a b
      obtain ⟨x1, x2⟩ := x
      by_cases e1 : a = x1 <;> by_cases e2 : b = x2 <;> simp [e1, e2]
    by_cases e1 : σ.2.1 14 y v = x.1 <;> by_cases e2 : σ.2.2.1 15 y v = x.2 <;> simp [e1, e2, wp_some, hp, b01, fr.rf]
theorem Finding_copyFrom_s {n : Nat} {σ : J} {z y : Nat} {r : Fq} (h : cN σ y r) (hz : z ≠ y) : wp (Finding_copyFrom n z y σ) (fun τ => cN τ z r ∧ fr (fun a b => 12 ≤ a ∧ a ≤ 15 ∧ b = z) σ τ) := by
  obtain ⟨h1, m, hm, h2, h3⟩ := h
  unfold Finding_copyFrom Finding_copyFrom_b0
  simp (disch := omega) only [sI1, sI2, sA1, sA2, sA3, sL1, sL2, sL3, sL4, sP1, sP2, sP3, sP4, i_in, i_n, i_lt, i_le, i_eq, i_add, i_sub, i_m, m_i, im_lt, im_le, lt_im, le_im, i_addm, m_in, i_cpo, l0, l1, l2, l3, l4, l5, l6, l7, l8, l9, l10, l12, l20, l100, l1000, lm, lo, bs_eq, some_bind, wp_some, if_true, if_false, if_pos, if_neg, and_self, blt_eq, eq_self]
  refine ⟨⟨fun j hj => ?_, m, hm, ?_, fun v hv => ?_⟩, (((fr.rf.sA (by omega)).sI (by omega)).sA (by omega)).sL (by omega)⟩
  · simp (disch := omega) only [sI1, sI2, sA1, sA2, sA3, sL1, sL2, sL3, sL4, sP1, sP2, sP3, sP4, bs_eq, some_bind, wp_some, if_true, if_false, if_pos, if_neg, and_self, blt_eq, eq_self]
    rw [va_cpy0 hj]
    exact h1 j hj
  · simp (disch := omega) only [sI1, sI2, sA1, sA2, sA3, sL1, sL2, sL3, sL4, sP1, sP2, sP3, sP4, bs_eq, some_bind, wp_some, if_true, if_false, if_pos, if_neg, and_self, blt_eq, eq_self]
    exact h2
  · simp (disch := omega) only [sI1, sI2, sA1, sA2, sA3, sL1, sL2, sL3, sL4, sP1, sP2, sP3, sP4, bs_eq, some_bind, wp_some, if_true, if_false, if_pos, if_neg, and_self, blt_eq, eq_self]
    rw [va_cpy0 hv, va_cpy0 hv]
    exact h3 v hv
