/-! The class's line, orders, sessions. Ours. -/
def cL (σ : J) (line : List Nat) : Prop := σ.1 21 1 0 = i line.length ∧ line.length ≤ 4 ∧ (∀ s ∈ line, s < 4) ∧ ∀ j s, line[j]? = some s → σ.2.1 22 0 j = i s
theorem cL.fr {Z : Nat → Nat → Prop} {σ τ : J} {line : List Nat} (h : cL σ line) (hf : fr Z σ τ) (h1 : ¬ Z 21 0) (h2 : ¬ Z 22 0) : cL τ line := by
  unfold cL
  rw [(hf 21 0 h1).1, (hf 22 0 h2).2.1]
  exact h
def a_place (line : List Nat) (s : Int32) : Int32 := match line.findIdx? (fun q => decide (i q = s)) with
  | some k => i k
  | none => im
theorem Line_placeOf_L {n : Nat} {σ : J} {line : List Nat} {s : Int32} (h : cL σ line) : ∀ (m1 : List Nat) (j f : Nat), line.drop j = m1 → j ≤ line.length → m1.length < f → Line_placeOf_L2 n f s (i j) σ = some (match m1.findIdx? (fun q => decide (i q = s)) with | some k => i (j + k) | none => im, σ) := by
  obtain ⟨h1, h2, h3, h4⟩ := h
  intro m1
  induction m1 with
  | nil =>
    intro j f hd hj hf
    obtain ⟨f, rfl⟩ : ∃ g, f = g + 1 := ⟨f - 1, by omega⟩
    have := List.drop_eq_nil_iff.mp hd
    unfold Line_placeOf_L2 Line_placeOf_b2
    rw [h1, if_pos (by rw [i_le (by omega) (by omega)]; omega)]
    rfl
  | cons a m1 ih =>
    intro j f hd hj hf
    obtain ⟨f, rfl⟩ : ∃ g, f = g + 1 := ⟨f - 1, by omega⟩
    obtain ⟨d1, d2⟩ := drop_cons hd
    have hjl := (List.getElem?_eq_some_iff.mp d1).1
    unfold Line_placeOf_L2 Line_placeOf_b2
    rw [h1, if_neg (by rw [i_le (by omega) (by omega)]; omega), if_pos (by rw [i_in (by omega)]; omega), i_n (by omega), h4 j a d1, List.findIdx?_cons]
    by_cases ha : i a = s
    · rw [if_pos ha, if_pos (by simpa using ha)]
      rfl
    · rw [if_neg ha, if_neg (by simpa using ha), l1, i_add, ih (j + 1) f d2 (by omega) (by simp at hf; omega)]
      cases m1.findIdx? (fun q => decide (i q = s)) with
      | none => rfl
      | some k =>
        show some (i (j + 1 + k), σ) = some (i (j + (k + 1)), σ)
        rw [show j + 1 + k = j + (k + 1) by omega]
theorem Line_placeOf_s {n f : Nat} {σ : J} {line : List Nat} {s : Int32} (h : cL σ line) (hf : 10 ≤ f) : Line_placeOf n f s σ = some (a_place line s, σ) := by
  have h2 := h.2.1
  have := Line_placeOf_L (n := n) (s := s) h line 0 f rfl (by omega) (by omega)
  unfold Line_placeOf Line_placeOf_b0 a_place
  rw [show (0 : Int32) = i 0 from rfl, this]
  congr 2
  cases line.findIdx? (fun q => decide (i q = s)) with
  | none => rfl
  | some k => show i (0 + k) = i k; rw [Nat.zero_add]
theorem a_place_in {line : List Nat} {s : Nat} (h4 : ∀ q ∈ line, q < 4) (hs : s < 4) (h : s ∈ line) : ∃ k, a_place line (i s) = i k ∧ line[k]? = some s ∧ k < line.length ∧ line.eraseIdx k = line.erase s := by
  have key : ∃ k, line.findIdx? (fun q => decide (i q = i s)) = some k ∧ line[k]? = some s ∧ k < line.length ∧ line.eraseIdx k = line.erase s := by
    induction line with
    | nil => cases h
    | cons a l ih =>
      have ha := h4 a List.mem_cons_self
      rw [List.findIdx?_cons]
      by_cases e : a = s
      · subst e
        exact ⟨0, by simp, rfl, by simp, by simp⟩
      · have hm : s ∈ l := by
          rcases List.mem_cons.mp h with q | q
          · exact absurd q.symm e
          · exact q
        obtain ⟨k, k1, k2, k3, k4⟩ := ih (fun q hq => h4 q (List.mem_cons_of_mem _ hq)) hm
        refine ⟨k + 1, ?_, k2, by simp; omega, ?_⟩
        · rw [if_neg (by rw [decide_eq_true_iff, i_eq (by omega) (by omega)]; exact e), k1]
          rfl
        · rw [List.eraseIdx_cons_succ, k4, List.erase_cons_tail (by simpa using e)]
  obtain ⟨k, k1, k2⟩ := key
  refine ⟨k, ?_, k2⟩
  unfold a_place
  rw [k1]
theorem a_place_out {line : List Nat} {s : Nat} (h4 : ∀ q ∈ line, q < 4) (hs : s < 4) (h : s ∉ line) : a_place line (i s) = im := by
  unfold a_place
  rw [List.findIdx?_eq_none_iff.mpr (fun q hq => by
    have := h4 q hq
    rw [decide_eq_false_iff_not, i_eq (by omega) (by omega)]
    exact fun e => h (e ▸ hq))]
theorem Line_append_s {n s : Nat} {σ : J} {line : List Nat} (h : cL σ line) (hl : line.length < 4) (hs : s < 4) : wp (Line_append n (i s) σ) (fun τ => cL τ (line ++ [s]) ∧ fr (fun a b => 21 ≤ a ∧ a ≤ 22 ∧ b = 0) σ τ) := by
  obtain ⟨h1, h2, h3, h4⟩ := h
  unfold Line_append Line_append_b0
  simp (disch := omega) only [h1, sI1, sI2, sA1, sA2, sA3, sL1, sL2, sL3, sL4, sP1, sP2, sP3, sP4, i_in, i_n, i_lt, i_le, i_eq, i_add, i_sub, i_m, m_i, im_lt, im_le, lt_im, le_im, i_addm, m_in, i_cpo, l0, l1, l2, l3, l4, l5, l6, l7, l8, l9, l10, l12, l20, l100, l1000, lm, lo, bs_eq, some_bind, wp_some, if_true, if_false, if_pos, if_neg, and_self, blt_eq, eq_self]
  refine ⟨⟨?_, by rw [List.length_append]; show line.length + 1 ≤ 4; omega, fun q hq => ?_, fun j q hq => ?_⟩, (fr.rf.sA (by omega)).sI (by omega)⟩
  · simp (disch := omega) only [sI1, sI2, sA1, sA2, sA3, sL1, sL2, sL3, sL4, sP1, sP2, sP3, sP4, bs_eq, some_bind, wp_some, if_true, if_false, if_pos, if_neg, and_self, blt_eq, eq_self]
    rw [List.length_append]
    rfl
  · rcases List.mem_append.mp hq with hq | hq
    · exact h3 q hq
    · rw [List.mem_singleton.mp hq]; exact hs
  · simp (disch := omega) only [sI1, sI2, sA1, sA2, sA3, sL1, sL2, sL3, sL4, sP1, sP2, sP3, sP4, bs_eq, some_bind, wp_some, if_true, if_false, if_pos, if_neg, and_self, blt_eq, eq_self]
    unfold upd
    by_cases hj : j = line.length
    · subst hj
      rw [List.getElem?_append_right (Nat.le_refl _), Nat.sub_self] at hq
      cases hq
      rw [if_pos rfl]
    · rw [if_neg hj]
      have := (List.getElem?_eq_some_iff.mp hq).1
      rw [List.length_append] at this
      replace this : j < line.length + 1 := this
      rw [List.getElem?_append_left (by omega)] at hq
      exact h4 j q hq
theorem Line_remove_s {n f s : Nat} {σ : J} {line : List Nat} (h : cL σ line) (hs : s < 4) (hf : 10 ≤ f) : wp (Line_remove n f (i s) σ) (fun τ => cL τ (line.erase s) ∧ fr (fun a b => 21 ≤ a ∧ a ≤ 22 ∧ b = 0) σ τ) := by
  unfold Line_remove Line_remove_b0
  rw [Line_placeOf_s h hf, some_bind]
  dsimp only
  by_cases hm : s ∈ line
  · obtain ⟨k, e1, e2, e3, e4⟩ := a_place_in h.2.2.1 hs hm
    obtain ⟨h1, h2, h3, h4⟩ := h
    rw [e1]
    simp (disch := omega) only [show (-1 : Int32) = im from rfl, h1, sI1, sI2, sA1, sA2, sA3, sL1, sL2, sL3, sL4, sP1, sP2, sP3, sP4, i_in, i_n, i_lt, i_le, i_eq, i_add, i_sub, i_m, m_i, im_lt, im_le, lt_im, le_im, i_addm, m_in, i_cpo, l0, l1, l2, l3, l4, l5, l6, l7, l8, l9, l10, l12, l20, l100, l1000, lm, lo, bs_eq, some_bind, wp_some, if_true, if_false, if_pos, if_neg, and_self, blt_eq, eq_self]
    refine ⟨⟨?_, ?_, fun q hq => h3 q (List.mem_of_mem_erase hq), fun j q hq => ?_⟩, (fr.rf.sI (by omega)).sA (by omega)⟩
    · simp (disch := omega) only [sI1, sI2, sA1, sA2, sA3, sL1, sL2, sL3, sL4, sP1, sP2, sP3, sP4, bs_eq, some_bind, wp_some, if_true, if_false, if_pos, if_neg, and_self, blt_eq, eq_self]
      rw [List.length_erase_of_mem hm]
    · rw [List.length_erase_of_mem hm]; omega
    · simp (disch := omega) only [sI1, sI2, sA1, sA2, sA3, sL1, sL2, sL3, sL4, sP1, sP2, sP3, sP4, bs_eq, some_bind, wp_some, if_true, if_false, if_pos, if_neg, and_self, blt_eq, eq_self]
      rw [← e4, List.getElem?_eraseIdx] at hq
      unfold va_cpy
      by_cases hj : j < k
      · rw [if_pos hj] at hq
        rw [if_neg (by omega)]
        exact h4 j q hq
      · rw [if_neg hj] at hq
        have := (List.getElem?_eq_some_iff.mp hq).1
        rw [if_pos (by omega), show k + 1 + (j - k) = j + 1 by omega]
        exact h4 (j + 1) q hq
  · rw [a_place_out h.2.2.1 hs hm, if_pos (show im = -1 from rfl), wp_some, List.erase_of_not_mem hm]
    exact ⟨h, fr.rf⟩

/-- an order -/
def cO (σ : J) (z : Nat) (o : Od) : Prop := cG σ z o.1 ∧ σ.1 18 2 z = i o.2.1.length ∧ AR (σ.2.1 19 z) o.2.1 ∧ σ.1 18 3 z = b01 o.2.2
theorem cO.fr {Z : Nat → Nat → Prop} {σ τ : J} {z : Nat} {o : Od} (h : cO σ z o) (hf : fr Z σ τ) (h1 : ∀ a, 8 ≤ a → a ≤ 11 → ¬ Z a z) (h2 : ¬ Z 18 z) (h3 : ¬ Z 19 z) : cO τ z o := by
  refine ⟨h.1.fr hf (h1 8 (by decide) (by decide)) (h1 9 (by decide) (by decide)) (h1 10 (by decide) (by decide)) (h1 11 (by decide) (by decide)), ?_, ?_, ?_⟩
  · rw [(hf 18 z h2).1]; exact h.2.1
  · rw [(hf 19 z h3).2.1]; exact h.2.2.1
  · rw [(hf 18 z h2).1]; exact h.2.2.2
theorem AR.app {k : Nat → Int32} {xs : List Int32} {x : Int32} (h : AR k xs) : AR (upd k xs.length x) (xs ++ [x]) := by
  intro j y hy
  unfold upd
  by_cases hj : j = xs.length
  · subst hj
    rw [List.getElem?_append_right (Nat.le_refl _), Nat.sub_self] at hy
    cases hy
    rw [if_pos rfl]
  · rw [if_neg hj]
    have hl : j < (xs ++ [x]).length := (List.getElem?_eq_some_iff.mp hy).1
    rw [List.length_append] at hl
    replace hl : j < xs.length + 1 := hl
    rw [List.getElem?_append_left (by omega)] at hy
    exact h j y hy
theorem a_add1_lt {N : Int32} {g : List Fm} {rs : List Int32} (h : rs.length < 5) : a_add1 N (g, rs, false) = (g, rs ++ [N], false) := by
  show (if false = true then _ else if rs.length = 5 then _ else _) = _
  rw [if_neg (by decide), if_neg (by omega)]
theorem a_add1_ge {N : Int32} {g : List Fm} {rs : List Int32} {ov : Bool} (h : rs.length = 5) : a_add1 N (g, rs, ov) = (g, rs, true) := by
  cases ov
  · show (if false = true then _ else if rs.length = 5 then _ else _) = _
    rw [if_neg (by decide), if_pos h]
  · rfl
theorem Order_addReport_s {n z : Nat} {σ : J} {o : Od} {N : Int32} (h : cO σ z o) (hl : o.2.1.length ≤ 5) : wp (Order_addReport n z N σ) (fun τ => cO τ z (a_add1 N o) ∧ fr (fun a b => 18 ≤ a ∧ a ≤ 19 ∧ b = z) σ τ) := by
  obtain ⟨g, rs, ov⟩ := o
  obtain ⟨h1, h2, h3, h4⟩ := h
  replace h2 : σ.1 18 2 z = i rs.length := h2
  replace h4 : σ.1 18 3 z = b01 ov := h4
  replace hl : rs.length ≤ 5 := hl
  unfold Order_addReport Order_addReport_b0 Order_addReport_b13 Order_addReport_b40
  rw [h2]
  have hc : ∀ {τ : J}, fr (fun a b => 18 ≤ a ∧ a ≤ 19 ∧ b = z) σ τ → cG τ z g := fun hf => cG.fr h1 hf (by omega) (by omega) (by omega) (by omega)
  by_cases hl5 : rs.length < 5
  · rw [if_pos (by rw [l5, i_lt (by omega) (by decide)]; exact hl5), h4]
    simp only [b01_0]
    cases ov with
    | true =>
      rw [if_neg (by decide), wp_some]
      exact ⟨⟨h1, h2, h3, h4⟩, fr.rf⟩
    | false =>
      have hf1 : fr (fun a b => 18 ≤ a ∧ a ≤ 19 ∧ b = z) σ (q_sI (q_sA σ 19 z (upd (σ.2.1 19 z) rs.length N)) 18 2 z (i (rs.length + 1))) := (fr.rf.sA (by omega)).sI (by omega)
      simp (disch := omega) only [h2, sI1, sI2, sA1, sA2, sA3, sL1, sL2, sL3, sL4, sP1, sP2, sP3, sP4, i_in, i_n, i_lt, i_le, i_eq, i_add, i_sub, i_m, m_i, im_lt, im_le, lt_im, le_im, i_addm, m_in, i_cpo, l1, bs_eq, some_bind, wp_some, if_true, if_false, if_pos, if_neg, and_self, blt_eq, eq_self]
      rw [a_add1_lt hl5]
      refine ⟨⟨hc hf1, ?_, ?_, ?_⟩, hf1⟩
      · simp (disch := omega) only [sI1, sI2, sA1, sA2, sA3, sL1, sL2, sL3, sL4, sP1, sP2, sP3, sP4, bs_eq, some_bind, wp_some, if_true, if_false, if_pos, if_neg, and_self, blt_eq, eq_self]
        show _ = i (rs ++ [N]).length
        rw [List.length_append]; rfl
      · simp (disch := omega) only [sI1, sI2, sA1, sA2, sA3, sL1, sL2, sL3, sL4, sP1, sP2, sP3, sP4, bs_eq, some_bind, wp_some, if_true, if_false, if_pos, if_neg, and_self, blt_eq, eq_self]
        exact AR.app h3
      · simp (disch := omega) only [sI1, sI2, sA1, sA2, sA3, sL1, sL2, sL3, sL4, sP1, sP2, sP3, sP4, bs_eq, some_bind, wp_some, if_true, if_false, if_pos, if_neg, and_self, blt_eq, eq_self]
        exact h4
  · rw [if_neg (by rw [l5, i_lt (by omega) (by decide)]; exact hl5)]
    have hf1 : fr (fun a b => 18 ≤ a ∧ a ≤ 19 ∧ b = z) σ (q_sI σ 18 3 z 1) := fr.rf.sI (by omega)
    simp only [and1_1, if_true, bs_eq, sI1, and_self]
    rw [if_neg (by decide), wp_some]
    rw [a_add1_ge (show rs.length = 5 by omega)]
    refine ⟨⟨hc hf1, ?_, h3, ?_⟩, hf1⟩
    · rw [sI1, if_neg (by omega)]; exact h2
    · rw [sI1, if_pos ⟨rfl, rfl, rfl⟩]; rfl
/-- the oldest report -/
def a_collect (o : Od) : Int32 × Od := match o.2.1 with
  | [] => (if o.2.2 = true then -2 else im, o)
  | x :: r => (x, o.1, r, o.2.2)
theorem Order_takeOldest_s {n z : Nat} {σ : J} {o : Od} (h : cO σ z o) (hl : o.2.1.length ≤ 5) : wp (Order_takeOldest n z σ) (fun q => q.1 = (a_collect o).1 ∧ cO q.2 z (a_collect o).2 ∧ fr (fun a b => 18 ≤ a ∧ a ≤ 19 ∧ b = z) σ q.2) := by
  obtain ⟨g, rs, ov⟩ := o
  obtain ⟨h1, h2, h3, h4⟩ := h
  replace h2 : σ.1 18 2 z = i rs.length := h2
  replace h4 : σ.1 18 3 z = b01 ov := h4
  replace hl : rs.length ≤ 5 := hl
  unfold Order_takeOldest Order_takeOldest_b0 Order_takeOldest_b20
  rw [h2]
  cases rs with
  | nil =>
    rw [if_pos (show i ([] : List Int32).length = 0 from rfl), h4]
    simp only [b01_0]
    cases ov with
    | true =>
      rw [if_neg (by decide), wp_some]
      exact ⟨rfl, ⟨h1, h2, h3, h4⟩, fr.rf⟩
    | false =>
      rw [if_pos rfl, wp_some]
      exact ⟨rfl, ⟨h1, h2, h3, h4⟩, fr.rf⟩
  | cons x r =>
    rw [List.length_cons] at h2 hl
    rw [List.length_cons]
    have hf1 : fr (fun a b => 18 ≤ a ∧ a ≤ 19 ∧ b = z) σ (q_sA (q_sI σ 18 2 z (i r.length)) 19 z (va_cpy (σ.2.1 19 z) (σ.2.1 19 z) 1 0 r.length)) := (fr.rf.sI (by omega)).sA (by omega)
    simp (disch := omega) only [h2, sI1, sI2, sA1, sA2, sA3, sL1, sL2, sL3, sL4, sP1, sP2, sP3, sP4, i_in, i_n, i_lt, i_le, i_eq, i_add, i_sub, i_m, m_i, im_lt, im_le, lt_im, le_im, i_addm, m_in, i_cpo, l0, l1, l2, l3, l4, l5, l6, l7, l8, l9, l10, l12, l20, l100, l1000, lm, lo, bs_eq, some_bind, wp_some, if_true, if_false, if_pos, if_neg, and_self, blt_eq, eq_self, Nat.add_sub_cancel]
    refine ⟨?_, ⟨cG.fr h1 hf1 (by omega) (by omega) (by omega) (by omega), ?_, ?_, ?_⟩, hf1⟩
    · exact h3 0 x rfl
    · simp (disch := omega) only [sI1, sI2, sA1, sA2, sA3, sL1, sL2, sL3, sL4, sP1, sP2, sP3, sP4, bs_eq, some_bind, wp_some, if_true, if_false, if_pos, if_neg, and_self, blt_eq, eq_self]
      rfl
    · simp (disch := omega) only [sI1, sI2, sA1, sA2, sA3, sL1, sL2, sL3, sL4, sP1, sP2, sP3, sP4, bs_eq, some_bind, wp_some, if_true, if_false, if_pos, if_neg, and_self, blt_eq, eq_self]
      intro j y hy
      have := (List.getElem?_eq_some_iff.mp hy).1
      unfold va_cpy
      replace hy : r[j]? = some y := hy
      replace this : j < r.length := this
      rw [if_pos (by omega)]
      exact h3 (1 + (j - 0)) y (by rw [show 1 + (j - 0) = j + 1 by omega]; exact hy)
    · simp (disch := omega) only [sI1, sI2, sA1, sA2, sA3, sL1, sL2, sL3, sL4, sP1, sP2, sP3, sP4, bs_eq, some_bind, wp_some, if_true, if_false, if_pos, if_neg, and_self, blt_eq, eq_self]
      exact h4
