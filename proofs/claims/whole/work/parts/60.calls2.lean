/-! The class's calls: form, forget, open, stop, order, collect. Ours. -/
theorem isForm_1 {a : Int64} : a_isForm (i 1) a = (!decide (a < 0) && !decide (2 < a)) := rfl
theorem isForm_2 {a : Int64} : a_isForm (i 2) a = (!decide (a < 0) && !decide (2 < a)) := rfl
theorem isForm_3 {a : Int64} : a_isForm (i 3) a = (!decide (a < 0) && !decide (2 < a)) := rfl
theorem isForm_9 {a : Int64} : a_isForm (i 9) a = (!decide (a < 0) && !decide (2 < a)) := rfl
theorem isForm_7 {a : Int64} : a_isForm (i 7) a = (!decide (a < 0) && decide (a < 4)) := rfl
theorem isForm_8 {a : Int64} : a_isForm (i 8) a = (!decide (a < 0) && decide (a < 2)) := rfl
theorem isForm_d {c : Int32} {a : Int64} (h1 : ¬ c = i 1) (h2 : ¬ c = i 2) (h3 : ¬ c = i 3) (h7 : ¬ c = i 7) (h8 : ¬ c = i 8) (h9 : ¬ c = i 9) : a_isForm c a = (decide (0 ≤ c) && decide (c ≤ 9)) := by
  unfold a_isForm
  rw [if_neg (by rintro (q | q | q | q); exact h1 q; exact h2 q; exact h3 q; exact h9 q), if_neg h7, if_neg h8]
theorem Pattern_isForm_s {n : Nat} {c : Int32} {a : Int64} {σ : J} : Pattern_isForm n c a σ = some (b01 (a_isForm c a), σ) := by
  unfold Pattern_isForm Pattern_isForm_b0 Pattern_isForm_b52 Pattern_isForm_b70 Pattern_isForm_b71 Pattern_isForm_b90 Pattern_isForm_b91 Pattern_isForm_b110 Pattern_isForm_b111 Pattern_isForm_b112 Pattern_isForm_b126 Pattern_isForm_b127
  simp only [and1_0, and1_1, if_true, lo, lq_lt, lq_gt, lq_ge]
  have hr : ∀ {p q : Prop} {_ : Decidable p} {_ : Decidable q}, (if p then some ((0 : Int32), σ) else if q then some (0, σ) else some (1, σ)) = some (b01 (!decide p && !decide q), σ) := by
    intro p q dp dq
    by_cases h1 : p <;> by_cases h2 : q <;> simp [h1, h2, b01]
  have hr2 : ∀ {p q : Prop} {_ : Decidable p} {_ : Decidable q}, (if p then some ((0 : Int32), σ) else if ¬ q then some (0, σ) else some (1, σ)) = some (b01 (!decide p && decide q), σ) := by
    intro p q dp dq
    by_cases h1 : p <;> by_cases h2 : q <;> simp [h1, h2, b01]
  have hc : (if c < 0 then some ((0 : Int32), σ) else if 9 < c then some (0, σ) else some (1, σ)) = some (b01 (decide (0 ≤ c) && decide (c ≤ 9)), σ) := by
    by_cases h0 : 0 ≤ c
    · rw [if_neg (show ¬ c < 0 from by rw [Int32.lt_iff_toInt_lt]; rw [Int32.le_iff_toInt_le] at h0; omega)]
      by_cases hx : c ≤ 9
      · rw [if_neg (by rw [Int32.lt_iff_toInt_lt]; rw [Int32.le_iff_toInt_le] at hx; omega), decide_eq_true h0, decide_eq_true hx]; rfl
      · rw [if_pos (by rw [Int32.lt_iff_toInt_lt]; rw [Int32.le_iff_toInt_le] at hx; omega), decide_eq_false hx, Bool.and_false]; rfl
    · rw [if_pos (i_neg h0), decide_eq_false h0, Bool.false_and]; rfl
  by_cases h1 : c = i 1
  · rw [if_pos h1, h1, isForm_1]; exact hr
  rw [if_neg h1]
  by_cases h2 : c = i 2
  · rw [if_pos h2, h2, isForm_2]; exact hr
  rw [if_neg h2]
  by_cases h3 : c = i 3
  · rw [if_pos h3, h3, isForm_3]; exact hr
  rw [if_neg h3]
  by_cases h4 : c = i 4
  · rw [if_pos h4, hc, isForm_d h1 h2 h3 (by rw [h4]; decide) (by rw [h4]; decide) (by rw [h4]; decide)]
  rw [if_neg h4]
  by_cases h5 : c = i 5
  · rw [if_pos h5, hc, isForm_d h1 h2 h3 (by rw [h5]; decide) (by rw [h5]; decide) (by rw [h5]; decide)]
  rw [if_neg h5]
  by_cases h6 : c = i 6
  · rw [if_pos h6, hc, isForm_d h1 h2 h3 (by rw [h6]; decide) (by rw [h6]; decide) (by rw [h6]; decide)]
  rw [if_neg h6]
  by_cases h7 : c = i 7
  · rw [if_pos h7, h7, isForm_7]; exact hr2
  rw [if_neg h7]
  by_cases h8 : c = i 8
  · rw [if_pos h8, h8, isForm_8]; exact hr2
  rw [if_neg h8]
  by_cases h9 : c = i 9
  · rw [if_pos h9, h9, isForm_9]; exact hr
  rw [if_neg h9, hc, isForm_d h1 h2 h3 h7 h8 h9]
theorem l64 {a : Int64} {m : Nat} (hm : m ≤ 10) (h0 : ¬ a < 0) (h1 : a < Int64.ofNat m) : ∃ v, v < m ∧ a = Int64.ofNat v := by
  rw [Int64.lt_iff_toInt_lt] at h0 h1
  have e0 : (0 : Int64).toInt = 0 := rfl
  have em : (Int64.ofNat m).toInt = m := Int64.toInt_ofNat_of_lt (by omega)
  rw [em] at h1
  rw [e0] at h0
  refine ⟨a.toInt.toNat, by omega, ?_⟩
  apply Int64.toInt_inj.mp
  rw [Int64.toInt_ofNat_of_lt (by omega)]
  omega
theorem isForm_ok {c : Int32} {a b : Int64} (h : a_isForm c a = true) : okG (c, a, b) := by
  unfold a_isForm at h
  refine ⟨?_, fun h7 => ?_, fun h8 => ?_⟩
  · show ∃ k, k ≤ 9 ∧ c = i k
    split at h
    · rename_i q
      rcases q with q | q | q | q
      · exact ⟨1, by decide, q⟩
      · exact ⟨2, by decide, q⟩
      · exact ⟨3, by decide, q⟩
      · exact ⟨9, by decide, q⟩
    · split at h
      · rename_i q; exact ⟨7, by decide, q⟩
      · split at h
        · rename_i q; exact ⟨8, by decide, q⟩
        · rw [Bool.and_eq_true, decide_eq_true_iff, decide_eq_true_iff] at h
          have h2 := h.2
          rw [i_of h.1, l9, i_le (i_cl c) (by decide)] at h2
          exact ⟨_, h2, i_of h.1⟩
  · replace h7 : c = i 7 := h7
    rw [if_neg (by rw [h7]; decide), if_pos h7, Bool.and_eq_true, Bool.not_eq_true', decide_eq_false_iff_not, decide_eq_true_iff] at h
    exact l64 (m := 4) (by decide) h.1 h.2
  · replace h8 : c = i 8 := h8
    rw [if_neg (by rw [h8]; decide), if_neg (by rw [h8]; decide), if_pos h8, Bool.and_eq_true, Bool.not_eq_true', decide_eq_false_iff_not, decide_eq_true_iff] at h
    exact l64 (m := 2) (by decide) h.1 h.2
theorem p3_i {p : Int32} (h0 : 0 ≤ p) (h3 : p < 3) : ∃ m, m < 3 ∧ p = i m ∧ p.toNatClampNeg = m := by
  rw [i_of h0, l3, i_lt (i_cl p) (by decide)] at h3
  exact ⟨_, h3, i_of h0, rfl⟩
theorem lt_of_nle {a b : Int32} (h : ¬ a ≤ b) : b < a := by rw [Int32.lt_iff_toInt_lt]; rw [Int32.le_iff_toInt_le] at h; omega
theorem nlt_of_le {a b : Int32} (h : a ≤ b) : ¬ b < a := by rw [Int32.lt_iff_toInt_lt]; rw [Int32.le_iff_toInt_le] at h; omega
theorem le_of_nlt {a b : Int32} (h : ¬ a < b) : b ≤ a := by rw [Int32.le_iff_toInt_le]; rw [Int32.lt_iff_toInt_lt] at h; omega
theorem nle_of_lt {a b : Int32} (h : a < b) : ¬ b ≤ a := by rw [Int32.le_iff_toInt_le]; rw [Int32.lt_iff_toInt_lt] at h; omega
/-- a change of one pattern -/
theorem cPs_up {n s p : Nat} {pt : Nat → Nat → List Fm} {gs : List Fm} {σ τ : J} (h : cPs n σ pt) (hp : p < 3) (hG : cG τ (6 + 3 * s + p) gs) (hf : fr (fun a b => 8 ≤ a ∧ a ≤ 11 ∧ b = 6 + 3 * s + p) σ τ) : cPs n τ (va_up pt s (va_up (pt s) p gs)) := by
  intro s1 p1 hs1 hp1
  unfold va_up
  by_cases e : s1 = s
  · rw [if_pos e, e]
    by_cases e2 : p1 = p
    · rw [e2, if_pos rfl]; exact hG
    · rw [if_neg e2]
      have := h s1 p1 hs1 hp1
      rw [e] at this
      exact this.fr hf (by omega) (by omega) (by omega) (by omega)
  · rw [if_neg e]
    exact (h s1 p1 hs1 hp1).fr hf (by omega) (by omega) (by omega) (by omega)
theorem okGs_up {n s p : Nat} {pt : Nat → Nat → List Fm} {gs : List Fm} (h : ∀ s p, s < n → p < 3 → okGs (pt s p)) (hs : s < n) (hg : okGs gs) : ∀ s1 p1, s1 < n → p1 < 3 → okGs (va_up pt s (va_up (pt s) p gs) s1 p1) := by
  intro s1 p1 h1 h2
  unfold va_up
  split
  · show okGs (if p1 = p then gs else pt s p1)
    split
    · exact hg
    · exact h s p1 hs h2
  · exact h s1 p1 h1 h2
theorem JB_form_s {n : Nat} {x p c : Int32} {va vb : Int64} {a : Sq} {σ : J} (hA : cA n σ a) (hw : wfA n a) : wp (JB_form n x p c va vb σ) (fun q => q.1 = (o_form n x p c va vb a).1 ∧ cA n q.2 (o_form n x p c va vb a).2 ∧ wfA n (o_form n x p c va vb a).2) := by
  obtain ⟨now, lat, ts, line, dl, dr, pt, la, jo, tk, fn, os⟩ := a
  unfold JB_form JB_form_b0 JB_form_b25 o_form
  rw [JB_readySession_s hA hw, some_bind]
  dsimp only
  cases hfi : a_first n line x with
  | inr e => rw [wp_some]; exact ⟨rfl, hA, hw⟩
  | inl s =>
    have hw' := hw
    obtain ⟨w1, w2, w3, w4, w5, w6, w7, w8, w9, w10, w11, w12, w13⟩ := hw'
    obtain ⟨hs, -, -⟩ := first_i w13 hfi
    have hA' := hA
    obtain ⟨g1, g2, g3, g4, g5, g6, g7, g8, g9, g10, g11, g12⟩ := hA'
    dsimp only
    rw [if_pos (by rw [blt_eq]; omega)]
    by_cases h0 : 0 ≤ p
    · rw [if_neg (nlt_of_le h0)]
      by_cases h3 : p < 3
      · obtain ⟨m, hm, e1, e2⟩ := p3_i h0 h3
        rw [if_neg (nle_of_lt h3), Pattern_isForm_s, some_bind]
        dsimp only
        cases hF : a_isForm c va with
        | false =>
          rw [if_pos (show b01 false = 0 from rfl), if_neg (fun q => by cases q.2.2), wp_some]
          exact ⟨rfl, hA, hw⟩
        | true =>
          rw [if_neg (by decide), if_pos (show 0 ≤ p ∧ p < 3 ∧ true = true from ⟨h0, h3, rfl⟩), e2, e1, if_pos (by rw [i_in (by omega)]; exact hm), g1.2.2.1 s m hs hm, if_pos (by rw [blt_eq]; omega), (g8 s m hs hm).1]
          have hl := (w6 s m hs hm).1
          by_cases h4 : (pt s m).length < 4
          · rw [if_pos (by rw [l4, i_lt (by omega) (by decide)]; exact h4), if_pos h4]
            refine wp_bind (Pattern_append_s (n := n) (k := c) (a := va) (b := vb) (g8 s m hs hm) h4) (fun q hq => ?_)
            obtain ⟨q1, q2, hf⟩ := hq
            rw [wp_some, q1]
            refine ⟨rfl, ⟨g1.fr hf (by omega) (fun q _ => Or.inl (by omega)) (fun q _ => (by omega)) (by omega), by rw [(hf 0 0 (by omega)).1]; exact g2, by rw [(hf 2 0 (by omega)).1]; exact g3, g4.fr hf (by omega) (by omega) (fun z _ => (by omega)), g5.fr hf (by omega) (by omega), fun q hq => by rw [(hf 16 q (by omega)).1]; exact g6 q hq, fun q hq => (g7 q hq).fr hf (by omega) (by omega) (by omega), cPs_up g8 hm q2 hf, fun q hq => by rw [(hf 16 q (by omega)).1]; exact g9 q hq, fun q hq => by rw [(hf 16 q (by omega)).1, (hf 16 q (by omega)).1]; exact g10 q hq, fun q hq => (g11 q hq).fr hf (by omega) (by omega) (by omega) (by omega), g12.fr w10 hf (by omega) (fun a z _ _ _ => (by omega)) (fun z _ => (by omega))⟩, w1, w2, w3, w4, w5, okGs_up w6 hs ⟨by rw [List.length_append]; show _ + 1 ≤ 4; omega, fun y hy => ?_⟩, w7, w8, w9, w10, w11, w12, w13⟩
            rcases List.mem_append.mp hy with hy | hy
            · exact (w6 s m hs hm).2 y hy
            · rw [List.mem_singleton.mp hy]; exact isForm_ok hF
          · rw [if_neg (by rw [l4, i_lt (by omega) (by decide)]; exact h4), if_neg h4, wp_some]
            exact ⟨rfl, hA, hw⟩
      · rw [if_pos (le_of_nlt h3), if_neg (fun q => h3 q.2.1), wp_some]
        exact ⟨rfl, hA, hw⟩
    · rw [if_pos (i_neg h0), if_neg (fun q => h0 q.1), wp_some]
      exact ⟨rfl, hA, hw⟩
theorem JB_forget_s {n : Nat} {x w : Int32} {a : Sq} {σ : J} (hA : cA n σ a) (hw : wfA n a) : wp (JB_forget n x w σ) (fun q => q.1 = (o_forget n x w a).1 ∧ cA n q.2 (o_forget n x w a).2 ∧ wfA n (o_forget n x w a).2) := by
  obtain ⟨now, lat, ts, line, dl, dr, pt, la, jo, tk, fn, os⟩ := a
  unfold JB_forget JB_forget_b0 JB_forget_b16 JB_forget_b48 o_forget
  rw [JB_readySession_s hA hw, some_bind]
  dsimp only
  cases hfi : a_first n line x with
  | inr e => rw [wp_some]; exact ⟨rfl, hA, hw⟩
  | inl s =>
    have hw' := hw
    obtain ⟨w1, w2, w3, w4, w5, w6, w7, w8, w9, w10, w11, w12, w13⟩ := hw'
    obtain ⟨hs, -, -⟩ := first_i w13 hfi
    have hA' := hA
    obtain ⟨g1, g2, g3, g4, g5, g6, g7, g8, g9, g10, g11, g12⟩ := hA'
    dsimp only
    rw [if_pos (by rw [blt_eq]; omega)]
    by_cases hm1 : w = im
    · subst hm1
      rw [if_neg (show ¬ im < -1 by decide), if_pos (show im < 3 by decide), if_pos (show im = -1 from rfl), if_pos rfl]
      refine wp_bind (Fields_empty_s (n := n) (g7 s hs)) (fun q hq => ?_)
      obtain ⟨q1, q2, hf⟩ := hq
      rw [wp_some, q1]
      refine ⟨rfl, ⟨g1.fr hf (by omega) (fun q _ => Or.inl (by omega)) (fun q _ => (by omega)) (by omega), by rw [(hf 0 0 (by omega)).1]; exact g2, by rw [(hf 2 0 (by omega)).1]; exact g3, g4.fr hf (by omega) (by omega) (fun z _ => (by omega)), g5.fr hf (by omega) (by omega), fun q hq => by rw [(hf 16 q (by omega)).1]; exact g6 q hq, fun q hq => ?_, g8.fr hf (fun a z _ _ _ => (by omega)), fun q hq => by rw [(hf 16 q (by omega)).1]; exact g9 q hq, fun q hq => by rw [(hf 16 q (by omega)).1, (hf 16 q (by omega)).1]; exact g10 q hq, fun q hq => (g11 q hq).fr hf (by omega) (by omega) (by omega) (by omega), g12.fr w10 hf (by omega) (fun a z _ _ _ => (by omega)) (fun z _ => (by omega))⟩, w1, w2, w3, w4, fun q hq => ?_, w6, w7, w8, w9, w10, w11, w12, w13⟩
      · unfold va_up
        by_cases e : q = s
        · rw [e, if_pos rfl]; exact q2
        · rw [if_neg e]; exact (g7 q hq).fr hf (by omega) (by omega) (by omega)
      · unfold va_up
        by_cases e : q = s
        · rw [if_pos e]; exact ⟨by decide, fun y hy => by cases hy⟩
        · rw [if_neg e]; exact w5 q hq
    · rw [if_neg hm1]
      have hne : ¬ w = -1 := hm1
      by_cases h0 : 0 ≤ w
      · rw [if_neg (nlt_of_le (show -1 ≤ w from by rw [Int32.le_iff_toInt_le] at h0 ⊢; have e1 : (-1 : Int32).toInt = -1 := rfl; have e2 : (0 : Int32).toInt = 0 := rfl; omega))]
        by_cases h3 : w < 3
        · obtain ⟨m, hm, e1, e2⟩ := p3_i h0 h3
          rw [if_pos h3, if_neg hne, if_pos (show 0 ≤ w ∧ w < 3 from ⟨h0, h3⟩), e2, e1, if_pos (by rw [i_in (by omega)]; exact hm), g1.2.2.1 s m hs hm, if_pos (by rw [blt_eq]; omega)]
          refine wp_bind (Pattern_empty_s (n := n) (g8 s m hs hm)) (fun q hq => ?_)
          obtain ⟨q1, q2, hf⟩ := hq
          rw [wp_some, q1]
          have hf8 : fr (fun a b => 8 ≤ a ∧ a ≤ 11 ∧ b = 6 + 3 * s + m) σ q.2 := hf.up (fun a b q => by omega)
          exact ⟨rfl, ⟨g1.fr hf (by omega) (fun q _ => Or.inl (by omega)) (fun q _ => (by omega)) (by omega), by rw [(hf 0 0 (by omega)).1]; exact g2, by rw [(hf 2 0 (by omega)).1]; exact g3, g4.fr hf (by omega) (by omega) (fun z _ => (by omega)), g5.fr hf (by omega) (by omega), fun q hq => by rw [(hf 16 q (by omega)).1]; exact g6 q hq, fun q hq => (g7 q hq).fr hf (by omega) (by omega) (by omega), cPs_up g8 hm q2 hf8, fun q hq => by rw [(hf 16 q (by omega)).1]; exact g9 q hq, fun q hq => by rw [(hf 16 q (by omega)).1, (hf 16 q (by omega)).1]; exact g10 q hq, fun q hq => (g11 q hq).fr hf (by omega) (by omega) (by omega) (by omega), g12.fr w10 hf (by omega) (fun a z _ _ _ => (by omega)) (fun z _ => (by omega))⟩, w1, w2, w3, w4, w5, okGs_up w6 hs ⟨by decide, fun y hy => by cases hy⟩, w7, w8, w9, w10, w11, w12, w13⟩
        · rw [if_neg h3, if_neg (fun q => h3 q.2), wp_some]
          exact ⟨rfl, hA, hw⟩
      · have hlt : w < -1 := by
          have q1 : w.toInt ≠ -1 := fun e => hne (Int32.toInt_inj.mp e)
          rw [Int32.le_iff_toInt_le] at h0
          rw [Int32.lt_iff_toInt_lt]
          have e1 : (-1 : Int32).toInt = -1 := rfl
          have e2 : (0 : Int32).toInt = 0 := rfl
          omega
        rw [if_pos hlt, if_neg (fun q => h0 q.1), wp_some]
        exact ⟨rfl, hA, hw⟩
theorem JB_open_s {n : Nat} {x : Int32} {a : Sq} {σ : J} (hA : cA n σ a) (hw : wfA n a) : wp (JB_open n x σ) (fun q => q.1 = (o_open n x a).1 ∧ cA n q.2 (o_open n x a).2 ∧ wfA n (o_open n x a).2) := by
  obtain ⟨now, lat, ts, line, dl, dr, pt, la, jo, tk, fn, os⟩ := a
  unfold JB_open JB_open_b0 o_open
  rw [JB_readySession_s hA hw, some_bind]
  dsimp only
  cases hfi : a_first n line x with
  | inr e => rw [wp_some]; exact ⟨rfl, hA, hw⟩
  | inl s =>
    have hw' := hw
    obtain ⟨w1, w2, w3, w4, w5, w6, w7, w8, w9, w10, w11, w12, w13⟩ := hw'
    obtain ⟨hs, -, -⟩ := first_i w13 hfi
    have hA' := hA
    obtain ⟨g1, g2, g3, g4, g5, g6, g7, g8, g9, g10, g11, g12⟩ := hA'
    have hd := w4 s hs
    dsimp only
    rw [if_pos (by rw [blt_eq]; omega), g6 s hs]
    by_cases h4 : dl s < 4
    · rw [if_pos (by rw [l4, i_lt (by omega) (by decide)]; exact h4), if_pos h4, bs_eq, wp_some, l1, i_add]
      have hf : fr (fun a b => Z4 a b ∨ (a = 16 ∧ b = s)) σ (q_sI σ 16 4 s (i (dl s + 1))) := fr.rf.sI (Or.inr ⟨rfl, rfl⟩)
      refine ⟨by rw [sI1, if_pos ⟨rfl, rfl, rfl⟩], cA_dl hA (g4.fr (Z := fun a b => a = 16 ∧ b = s) (fr.rf.sI ⟨rfl, rfl⟩) (by omega) (by omega) (fun z _ => by omega)) hf (by rw [sI1, if_pos ⟨rfl, rfl, rfl⟩]) (fun g hg => by rw [sI1, if_neg (fun q => hg q.2.1)]), okTs_dl w1 w13 w4 (by omega) (fun t ht e => ?_), w2, w3, fun q hq => ?_, w5, w6, w7, w8, w9, w10, w11, w12, w13⟩
      · rcases w1.tk w13 (show s < 4 by omega) t ht e with q | ⟨e, e1, e2, e3⟩
        · exact Or.inl q
        · exact Or.inr ⟨e, e1, by omega, e3⟩
      · unfold va_up
        split
        · omega
        · exact w4 q hq
    · rw [if_neg (by rw [l4, i_lt (by omega) (by decide)]; exact h4), if_neg h4, wp_some]
      exact ⟨rfl, hA, hw⟩
theorem JB_stop_s {n f : Nat} {x : Int32} {a : Sq} {σ : J} (hA : cA n σ a) (hw : wfA n a) (hf : 20 ≤ f) : wp (JB_stop n f x σ) (fun q => q.1 = (o_stop n x a).1 ∧ cA n q.2 (o_stop n x a).2 ∧ wfA n (o_stop n x a).2) := by
  obtain ⟨now, lat, ts, line, dl, dr, pt, la, jo, tk, fn, os⟩ := a
  have hw' := hw
  obtain ⟨w1, w2, w3, w4, w5, w6, w7, w8, w9, w10, w11, w12, w13⟩ := hw'
  have hA' := hA
  obtain ⟨g1, g2, g3, g4, g5, g6, g7, g8, g9, g10, g11, g12⟩ := hA'
  unfold JB_stop JB_stop_b0 o_stop
  rw [JB_sessionAt_s w13 g1, some_bind]
  dsimp only
  cases h : a_sess n x with
  | false => rw [if_neg (show ¬ false = true by decide), if_neg (show ¬ false = true by decide)]; rw [wp_some]; exact ⟨rfl, hA, hw⟩
  | true =>
    obtain ⟨s, hs, e1, e2⟩ := sess_i w13 h
    rw [if_pos rfl, if_pos rfl, e2]
    dsimp only
    rw [if_pos (by rw [blt_eq]; omega), g9 s hs]
    simp only [and1_0, and1_1, if_true]
    by_cases hm : s ∈ line
    · rw [if_pos hm, if_pos (show i 1 = 1 from rfl), if_pos hm]
      refine wp_bind (JB_endWait_s (n := n) (v := 0) (by omega) (by omega) (g1.2.1 s hs) g5) (fun υ hυ => ?_)
      rw [wp_some]
      exact ⟨rfl, cA_leave hA w2 hs hυ.1 hυ.2.1 hυ.2.2.1 hυ.2.2.2, wfA_leave (s := s) (v := i 0) hw (Or.inl rfl)⟩
    · rw [if_neg hm, if_neg (la_ne w7 hs), if_neg hm, wp_some]
      exact ⟨rfl, hA, hw⟩
