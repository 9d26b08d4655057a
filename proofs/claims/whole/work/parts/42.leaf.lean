/-! The class's leaves, against lists. Ours. -/
def cF (σ : J) (z : Nat) (xs : List FV) : Prop := FR (σ.1 5 0 z) (σ.2.1 6 z) (σ.2.2.1 7 z) xs
def cG (σ : J) (z : Nat) (gs : List Fm) : Prop := GR (σ.1 8 0 z) (σ.2.1 9 z) (σ.2.2.1 10 z) (σ.2.2.1 11 z) gs
theorem cF.fr {Z : Nat → Nat → Prop} {σ τ : J} {z : Nat} {xs : List FV} (h : cF σ z xs) (hf : fr Z σ τ) (h5 : ¬ Z 5 z) (h6 : ¬ Z 6 z) (h7 : ¬ Z 7 z) : cF τ z xs := by
  unfold cF
  rw [(hf 5 z h5).1, (hf 6 z h6).2.1, (hf 7 z h7).2.2.1]
  exact h
theorem cG.fr {Z : Nat → Nat → Prop} {σ τ : J} {z : Nat} {xs : List Fm} (h : cG σ z xs) (hf : fr Z σ τ) (h5 : ¬ Z 8 z) (h6 : ¬ Z 9 z) (h7 : ¬ Z 10 z) (h8 : ¬ Z 11 z) : cG τ z xs := by
  unfold cG
  rw [(hf 8 z h5).1, (hf 9 z h6).2.1, (hf 10 z h7).2.2.1, (hf 11 z h8).2.2.1]
  exact h
theorem FR.app {c : Int32} {k : Nat → Int32} {v : Nat → Int64} {xs : List FV} {x : FV} (h : FR c k v xs) : FR (i (xs.length + 1)) (upd k xs.length x.1) (vp_updL v xs.length x.2) (xs ++ [x]) := by
  refine ⟨by rw [List.length_append]; rfl, fun j y hy => ?_⟩
  unfold upd vp_updL
  by_cases hj : j = xs.length
  · subst hj
    rw [List.getElem?_append_right (Nat.le_refl _), Nat.sub_self] at hy
    cases hy
    simp
  · rw [if_neg hj, if_neg hj]
    have hl : j < (xs ++ [x]).length := (List.getElem?_eq_some_iff.mp hy).1
    rw [List.length_append] at hl
    replace hl : j < xs.length + 1 := hl
    rw [List.getElem?_append_left (by omega)] at hy
    exact h.2 j y hy
theorem GR.app {c : Int32} {k : Nat → Int32} {a b : Nat → Int64} {xs : List Fm} {x : Fm} (h : GR c k a b xs) : GR (i (xs.length + 1)) (upd k xs.length x.1) (vp_updL a xs.length x.2.1) (vp_updL b xs.length x.2.2) (xs ++ [x]) := by
  refine ⟨by rw [List.length_append]; rfl, fun j y hy => ?_⟩
  unfold upd vp_updL
  by_cases hj : j = xs.length
  · subst hj
    rw [List.getElem?_append_right (Nat.le_refl _), Nat.sub_self] at hy
    cases hy
    simp
  · rw [if_neg hj, if_neg hj, if_neg hj]
    have hl : j < (xs ++ [x]).length := (List.getElem?_eq_some_iff.mp hy).1
    rw [List.length_append] at hl
    replace hl : j < xs.length + 1 := hl
    rw [List.getElem?_append_left (by omega)] at hy
    exact h.2 j y hy
theorem Fields_append_s {n : Nat} {σ : J} {z : Nat} {xs : List FV} {k : Int32} {v : Int64} (h : cF σ z xs) (hl : xs.length < 4) : wp (Fields_append n z k v σ) (fun r => r.1 = i (xs.length + 1) ∧ cF r.2 z (xs ++ [(k, v)]) ∧ fr (fun a b => 5 ≤ a ∧ a ≤ 7 ∧ b = z) σ r.2) := by
  have h0 : σ.1 5 0 z = i xs.length := h.1
  unfold Fields_append Fields_append_b0
  simp (disch := omega) only [h0, i_in, bs_eq, sI1, sA1, sA2, sL1, sI2, sL3, sA3, sL2, i_n, if_pos, if_true, wp_some, l1, i_add, and_self]
  refine ⟨trivial, ?_, ((fr.rf.sA (by omega)).sL (by omega)).sI (by omega)⟩
  have h2 := FR.app (x := (k, v)) h
  unfold cF
  simp (disch := omega) only [sI1, sI2, sL3, sA3, sL2, sA2, if_pos, if_neg, if_true, and_self]
  exact h2
theorem eq_self {α : Type} (a : α) : (a = a) = True := propext ⟨fun _ => trivial, fun _ => rfl⟩
theorem Fields_empty_s {n : Nat} {σ : J} {z : Nat} {xs : List FV} (h : cF σ z xs) : wp (Fields_empty n z σ) (fun r => r.1 = i xs.length ∧ cF r.2 z [] ∧ fr (fun a b => a = 5 ∧ b = z) σ r.2) := by
  have h0 : σ.1 5 0 z = i xs.length := h.1
  unfold Fields_empty Fields_empty_b0
  simp (disch := omega) only [h0, sI1, sI2, sA1, sA2, sA3, sL1, sL2, sL3, sL4, sP1, sP2, sP3, sP4, bs_eq, some_bind, wp_some, if_true, if_false, if_pos, if_neg, and_self, blt_eq, eq_self]
  refine ⟨trivial, ?_, fr.rf.sI (by omega)⟩
  unfold cF
  simp (disch := omega) only [sI1, sI2, sA1, sA2, sA3, sL1, sL2, sL3, sL4, sP1, sP2, sP3, sP4, bs_eq, some_bind, wp_some, if_true, if_false, if_pos, if_neg, and_self, blt_eq, eq_self]
  exact ⟨rfl, fun j x hx => by cases hx⟩
theorem Pattern_empty_s {n : Nat} {σ : J} {z : Nat} {xs : List Fm} (h : cG σ z xs) : wp (Pattern_empty n z σ) (fun r => r.1 = i xs.length ∧ cG r.2 z [] ∧ fr (fun a b => a = 8 ∧ b = z) σ r.2) := by
  have h0 : σ.1 8 0 z = i xs.length := h.1
  unfold Pattern_empty Pattern_empty_b0
  simp (disch := omega) only [h0, sI1, sI2, sA1, sA2, sA3, sL1, sL2, sL3, sL4, sP1, sP2, sP3, sP4, bs_eq, some_bind, wp_some, if_true, if_false, if_pos, if_neg, and_self, blt_eq, eq_self]
  refine ⟨trivial, ?_, fr.rf.sI (by omega)⟩
  unfold cG
  simp (disch := omega) only [sI1, sI2, sA1, sA2, sA3, sL1, sL2, sL3, sL4, sP1, sP2, sP3, sP4, bs_eq, some_bind, wp_some, if_true, if_false, if_pos, if_neg, and_self, blt_eq, eq_self]
  exact ⟨rfl, fun j x hx => by cases hx⟩
theorem Pattern_append_s {n : Nat} {σ : J} {z : Nat} {xs : List Fm} {k : Int32} {a b : Int64} (h : cG σ z xs) (hl : xs.length < 4) : wp (Pattern_append n z k a b σ) (fun r => r.1 = i (xs.length + 1) ∧ cG r.2 z (xs ++ [(k, a, b)]) ∧ fr (fun a b => 8 ≤ a ∧ a ≤ 11 ∧ b = z) σ r.2) := by
  have h0 : σ.1 8 0 z = i xs.length := h.1
  unfold Pattern_append Pattern_append_b0
  simp (disch := omega) only [h0, sI1, sI2, sA1, sA2, sA3, sL1, sL2, sL3, sL4, sP1, sP2, sP3, sP4, i_in, i_n, i_lt, i_le, i_eq, i_add, i_sub, i_m, m_i, im_lt, im_le, lt_im, le_im, i_addm, m_in, i_cpo, l0, l1, l2, l3, l4, l5, l6, l7, l8, l9, l10, l12, l20, l100, l1000, lm, lo, bs_eq, some_bind, wp_some, if_true, if_false, if_pos, if_neg, and_self, blt_eq, eq_self]
  refine ⟨trivial, ?_, (((fr.rf.sA (by omega)).sL (by omega)).sL (by omega)).sI (by omega)⟩
  have h2 := GR.app (x := (k, a, b)) h
  unfold cG
  simp (disch := omega) only [sI1, sI2, sA1, sA2, sA3, sL1, sL2, sL3, sL4, sP1, sP2, sP3, sP4, bs_eq, some_bind, wp_some, if_true, if_false, if_pos, if_neg, and_self, blt_eq, eq_self]
  exact h2
theorem FR.len {c : Int32} {k : Nat → Int32} {v : Nat → Int64} {xs : List FV} (h : FR c k v xs) : c = i xs.length := h.1
theorem Fields_kindAt_s {n : Nat} {σ : J} {z : Nat} {xs : List FV} (h : cF σ z xs) (hl : xs.length ≤ 4) (j : Int32) : Fields_kindAt n z j σ = some (if 0 ≤ j then (match xs[j.toNatClampNeg]? with | some x => x.1 | none => im) else im, σ) := by
  have h0 : σ.1 5 0 z = i xs.length := h.1
  unfold Fields_kindAt Fields_kindAt_b0 Fields_kindAt_b21 Fields_kindAt_b22
  by_cases hj : 0 ≤ j
  · obtain ⟨m, rfl, hm⟩ : ∃ m, j = i m ∧ m < 2147483648 := ⟨_, i_of hj, i_cl j⟩
    rw [if_pos hj, i_n hm, h0]
    cases hx : xs[m]? with
    | none =>
      have := List.getElem?_eq_none_iff.mp hx
      simp (disch := omega) only [i_in, i_n, i_lt, i_le, i_eq, i_add, i_sub, i_m, m_i, im_lt, im_le, lt_im, le_im, i_addm, m_in, i_cpo, l0, l1, l2, l3, l4, l5, l6, l7, l8, l9, l10, l12, l20, l100, l1000, lm, lo, bs_eq, some_bind, wp_some, if_true, if_false, if_pos, if_neg, and_self, blt_eq, eq_self]
    | some x =>
      have := (List.getElem?_eq_some_iff.mp hx).1
      simp (disch := omega) only [i_in, i_n, i_lt, i_le, i_eq, i_add, i_sub, i_m, m_i, im_lt, im_le, lt_im, le_im, i_addm, m_in, i_cpo, l0, l1, l2, l3, l4, l5, l6, l7, l8, l9, l10, l12, l20, l100, l1000, lm, lo, bs_eq, some_bind, wp_some, if_true, if_false, if_pos, if_neg, and_self, blt_eq, eq_self, (h.2 m x hx).1]
  · rw [if_neg hj, if_pos (i_neg hj)]
    rfl
theorem Fields_valueAt_s {n : Nat} {σ : J} {z : Nat} {xs : List FV} (h : cF σ z xs) (hl : xs.length ≤ 4) (j : Int32) : Fields_valueAt n z j σ = some (if 0 ≤ j then (match xs[j.toNatClampNeg]? with | some x => x.2 | none => -1) else -1, σ) := by
  have h0 : σ.1 5 0 z = i xs.length := h.1
  unfold Fields_valueAt Fields_valueAt_b0 Fields_valueAt_b21 Fields_valueAt_b24
  by_cases hj : 0 ≤ j
  · obtain ⟨m, rfl, hm⟩ : ∃ m, j = i m ∧ m < 2147483648 := ⟨_, i_of hj, i_cl j⟩
    rw [if_pos hj, i_n hm, h0]
    cases hx : xs[m]? with
    | none =>
      have := List.getElem?_eq_none_iff.mp hx
      simp (disch := omega) only [i_in, i_n, i_lt, i_le, i_eq, i_add, i_sub, i_m, m_i, im_lt, im_le, lt_im, le_im, i_addm, m_in, i_cpo, l0, l1, l2, l3, l4, l5, l6, l7, l8, l9, l10, l12, l20, l100, l1000, lm, lo, bs_eq, some_bind, wp_some, if_true, if_false, if_pos, if_neg, and_self, blt_eq, eq_self]
    | some x =>
      have := (List.getElem?_eq_some_iff.mp hx).1
      simp (disch := omega) only [i_in, i_n, i_lt, i_le, i_eq, i_add, i_sub, i_m, m_i, im_lt, im_le, lt_im, le_im, i_addm, m_in, i_cpo, l0, l1, l2, l3, l4, l5, l6, l7, l8, l9, l10, l12, l20, l100, l1000, lm, lo, bs_eq, some_bind, wp_some, if_true, if_false, if_pos, if_neg, and_self, blt_eq, eq_self, (h.2 m x hx).2]
  · rw [if_neg hj, if_pos (i_neg hj)]
theorem va_cpy0 {α : Type} {f g : Nat → α} {m : Nat} {j : Nat} (h : j < m) : va_cpy f g 0 0 m j = f j := by
  unfold va_cpy
  rw [if_pos (by omega)]
  congr 1
  omega
theorem Fields_copyFrom_s {n : Nat} {σ : J} {z y : Nat} {xs : List FV} (h : cF σ y xs) (hl : xs.length ≤ 4) (hz : z ≠ y) : wp (Fields_copyFrom n z y σ) (fun τ => cF τ z xs ∧ fr (fun a b => 5 ≤ a ∧ a ≤ 7 ∧ b = z) σ τ) := by
  have h0 : σ.1 5 0 y = i xs.length := h.1
  unfold Fields_copyFrom Fields_copyFrom_b0
  simp (disch := omega) only [h0, sI1, sI2, sA1, sA2, sA3, sL1, sL2, sL3, sL4, sP1, sP2, sP3, sP4, i_in, i_n, i_lt, i_le, i_eq, i_add, i_sub, i_m, m_i, im_lt, im_le, lt_im, le_im, i_addm, m_in, i_cpo, l0, l1, l2, l3, l4, l5, l6, l7, l8, l9, l10, l12, l20, l100, l1000, lm, lo, bs_eq, some_bind, wp_some, if_true, if_false, if_pos, if_neg, and_self, blt_eq, eq_self]
  refine ⟨?_, ((fr.rf.sI (by omega)).sA (by omega)).sL (by omega)⟩
  unfold cF
  simp (disch := omega) only [sI1, sI2, sA1, sA2, sA3, sL1, sL2, sL3, sL4, sP1, sP2, sP3, sP4, bs_eq, some_bind, wp_some, if_true, if_false, if_pos, if_neg, and_self, blt_eq, eq_self]
  refine ⟨rfl, fun j x hx => ?_⟩
  have hj := (List.getElem?_eq_some_iff.mp hx).1
  rw [va_cpy0 (by omega), va_cpy0 (by omega)]
  exact h.2 j x hx
theorem Pattern_copyFrom_s {n : Nat} {σ : J} {z y : Nat} {xs : List Fm} (h : cG σ y xs) (hl : xs.length ≤ 4) (hz : z ≠ y) : wp (Pattern_copyFrom n z y σ) (fun τ => cG τ z xs ∧ fr (fun a b => 8 ≤ a ∧ a ≤ 11 ∧ b = z) σ τ) := by
  have h0 : σ.1 8 0 y = i xs.length := h.1
  unfold Pattern_copyFrom Pattern_copyFrom_b0
  simp (disch := omega) only [h0, sI1, sI2, sA1, sA2, sA3, sL1, sL2, sL3, sL4, sP1, sP2, sP3, sP4, i_in, i_n, i_lt, i_le, i_eq, i_add, i_sub, i_m, m_i, im_lt, im_le, lt_im, le_im, i_addm, m_in, i_cpo, l0, l1, l2, l3, l4, l5, l6, l7, l8, l9, l10, l12, l20, l100, l1000, lm, lo, bs_eq, some_bind, wp_some, if_true, if_false, if_pos, if_neg, and_self, blt_eq, eq_self]
  refine ⟨?_, (((fr.rf.sI (by omega)).sA (by omega)).sL (by omega)).sL (by omega)⟩
  unfold cG
  simp (disch := omega) only [sI1, sI2, sA1, sA2, sA3, sL1, sL2, sL3, sL4, sP1, sP2, sP3, sP4, bs_eq, some_bind, wp_some, if_true, if_false, if_pos, if_neg, and_self, blt_eq, eq_self]
  refine ⟨rfl, fun j x hx => ?_⟩
  have hj := (List.getElem?_eq_some_iff.mp hx).1
  rw [va_cpy0 (by omega), va_cpy0 (by omega), va_cpy0 (by omega)]
  exact h.2 j x hx
