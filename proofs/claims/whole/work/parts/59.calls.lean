/-! The class's calls: field, form, forget, open, stop, order, collect, now, session, found, seen, about. Ours. -/
theorem sess_i {n : Nat} {x : Int32} (hn : n ≤ 4) (h : a_sess n x = true) : ∃ s, s < n ∧ x = i s ∧ x.toNatClampNeg = s := by
  unfold a_sess at h
  rw [Bool.and_eq_true, decide_eq_true_iff, decide_eq_true_iff] at h
  have h2 := h.2
  rw [i_of h.1, i_lt (i_cl x) (by omega)] at h2
  exact ⟨_, h2, i_of h.1, rfl⟩
theorem JB_sessionAt_s {n : Nat} {x : Int32} {σ : J} (hn : n ≤ 4) (hst : cSt n σ) : JB_sessionAt n x σ = some (if a_sess n x = true then .inl x.toNatClampNeg else .inr 1, σ) := by
  unfold JB_sessionAt JB_sessionAt_b0 JB_sessionAt_b13
  rw [Nat.zero_add]
  cases h : a_sess n x with
  | true =>
    obtain ⟨s, hs, e1, e2⟩ := sess_i hn h
    rw [e2, e1]
    rw [if_neg (by rw [l0, i_lt (by omega) (by decide)]; omega), if_pos (by rw [lo, i_lt (by omega) (by omega)]; exact hs), if_pos (by rw [i_in (by omega)]; exact hs), if_pos (by rw [hst.1 s hs, blt_eq]; exact hs), hst.1 s hs]
    rfl
  | false =>
    rw [if_neg (show ¬ false = true by decide)]
    by_cases h0 : 0 ≤ x
    · rw [if_neg (show ¬ x < 0 from by rw [Int32.lt_iff_toInt_lt]; rw [Int32.le_iff_toInt_le] at h0; omega), if_neg (fun q : x < Int32.ofNat n => ?_)]
      unfold a_sess at h
      rw [decide_eq_true h0, decide_eq_true (show x < i n from q)] at h
      cases h
    · rw [if_pos (i_neg h0)]
theorem la_ne {n : Nat} {la : Nat → Int32} {s : Nat} (h : ∀ s, s < n → la s = i 0 ∨ la s = i 2 ∨ la s = i 3) (hs : s < n) : ¬ la s = 1 := by
  rw [l1]
  rcases h s hs with g | g | g <;> rw [g, i_eq (by decide) (by decide)] <;> decide
theorem JB_readySession_s {n : Nat} {x : Int32} {now lat : Nat} {ts : List Tp} {line : List Nat} {dl : Nat → Nat} {dr : Nat → List FV} {pt : Nat → Nat → List Fm} {la : Nat → Int32} {jo : Nat → Nat} {tk : Nat → Bool} {fn : Nat → Fq} {os : List Od} {σ : J} (hA : cA n σ (now, lat, ts, line, dl, dr, pt, la, jo, tk, fn, os)) (hw : wfA n (now, lat, ts, line, dl, dr, pt, la, jo, tk, fn, os)) : JB_readySession n x σ = some (a_first n line x, σ) := by
  obtain ⟨g1, g2, g3, g4, g5, g6, g7, g8, g9, g10, g11, g12⟩ := hA
  obtain ⟨w1, w2, w3, w4, w5, w6, w7, w8, w9, w10, w11, w12, w13⟩ := hw
  unfold JB_readySession JB_readySession_b0 a_first
  rw [JB_sessionAt_s w13 g1, some_bind]
  dsimp only
  cases h : a_sess n x with
  | true =>
    obtain ⟨s, hs, e1, e2⟩ := sess_i w13 h
    rw [if_pos rfl, if_pos rfl, e2]
    dsimp only
    rw [if_pos (by rw [blt_eq]; omega), g9 s hs]
    by_cases hm : s ∈ line
    · rw [if_pos hm, if_pos (show i 1 = 1 from rfl), if_pos hm]
    · rw [if_neg hm, if_neg (la_ne w7 hs), if_neg hm]
  | false =>
    rw [if_neg (by decide), if_neg (by decide)]
theorem first_i {n : Nat} {line : List Nat} {x : Int32} {s : Nat} (hn : n ≤ 4) (h : a_first n line x = .inl s) : s < n ∧ x = i s ∧ s ∉ line := by
  unfold a_first at h
  split at h
  · rename_i h1
    obtain ⟨s1, hs, e1, e2⟩ := sess_i hn h1
    rw [e2] at h
    split at h
    · cases h
    · rename_i h2
      cases h
      exact ⟨hs, e1, h2⟩
  · cases h
theorem k02 {k : Int32} {v : Int64} (h : 0 ≤ k ∧ k ≤ 2) : okF (k, v) := by
  have h2 := h.2
  rw [i_of h.1, l2, i_le (i_cl k) (by decide)] at h2
  have h3 := i_of h.1
  unfold okF
  rw [show (k, v).1 = k from rfl, h3]
  generalize k.toNatClampNeg = m at h2
  match m, h2 with
  | 0, _ => exact Or.inl rfl
  | 1, _ => exact Or.inr (Or.inl rfl)
  | 2, _ => exact Or.inr (Or.inr rfl)
theorem JB_field_s {n : Nat} {x k : Int32} {v : Int64} {a : Sq} {σ : J} (hA : cA n σ a) (hw : wfA n a) : wp (JB_field n x k v σ) (fun q => q.1 = (o_field n x k v a).1 ∧ cA n q.2 (o_field n x k v a).2 ∧ wfA n (o_field n x k v a).2) := by
  obtain ⟨now, lat, ts, line, dl, dr, pt, la, jo, tk, fn, os⟩ := a
  unfold JB_field JB_field_b0 JB_field_b16 o_field
  rw [JB_readySession_s hA hw, some_bind]
  dsimp only
  cases hfi : a_first n line x with
  | inr e => rw [wp_some]; exact ⟨rfl, hA, hw⟩
  | inl s =>
    obtain ⟨w1, w2, w3, w4, w5, w6, w7, w8, w9, w10, w11, w12, w13⟩ := hw
    obtain ⟨hs, -, -⟩ := first_i w13 hfi
    have hA' := hA
    obtain ⟨g1, g2, g3, g4, g5, g6, g7, g8, g9, g10, g11, g12⟩ := hA'
    have hl := (w5 s hs).1
    dsimp only
    rw [if_pos (by rw [blt_eq]; omega)]
    by_cases h0 : 0 ≤ k
    · rw [if_neg (by rw [Int32.lt_iff_toInt_lt]; rw [Int32.le_iff_toInt_le] at h0; omega)]
      by_cases h2 : k ≤ 2
      · rw [if_pos h2, if_pos (show 0 ≤ k ∧ k ≤ 2 from ⟨h0, h2⟩), (g7 s hs).1]
        by_cases h4 : (dr s).length < 4
        · rw [if_pos (by rw [l4, i_lt (by omega) (by decide)]; exact h4), if_pos h4]
          refine wp_bind (Fields_append_s (n := n) (k := k) (v := v) (g7 s hs) h4) (fun q hq => ?_)
          obtain ⟨q1, q2, hf⟩ := hq
          rw [wp_some, q1]
          refine ⟨rfl, ⟨g1.fr hf (by omega) (fun q _ => Or.inl (by omega)) (fun q _ => (by omega)) (by omega), by rw [(hf 0 0 (by omega)).1]; exact g2, by rw [(hf 2 0 (by omega)).1]; exact g3, g4.fr hf (by omega) (by omega) (fun z _ => (by omega)), g5.fr hf (by omega) (by omega), fun q hq => by rw [(hf 16 q (by omega)).1]; exact g6 q hq, fun q hq => ?_, g8.fr hf (fun a z _ _ _ => (by omega)), fun q hq => by rw [(hf 16 q (by omega)).1]; exact g9 q hq, fun q hq => by rw [(hf 16 q (by omega)).1, (hf 16 q (by omega)).1]; exact g10 q hq, fun q hq => (g11 q hq).fr hf (by omega) (by omega) (by omega) (by omega), g12.fr w10 hf (by omega) (fun a z _ _ _ => (by omega)) (fun z _ => (by omega))⟩, w1, w2, w3, w4, fun q hq => ?_, w6, w7, w8, w9, w10, w11, w12, w13⟩
          · unfold va_up
            by_cases e : q = s
            · rw [e, if_pos rfl]; exact q2
            · rw [if_neg e]; exact (g7 q hq).fr hf (by omega) (by omega) (by omega)
          · unfold va_up
            by_cases e : q = s
            · rw [if_pos e]
              refine ⟨by rw [List.length_append]; show _ + 1 ≤ 4; omega, fun y hy => ?_⟩
              rcases List.mem_append.mp hy with hy | hy
              · exact (w5 s hs).2 y hy
              · rw [List.mem_singleton.mp hy]; exact k02 ⟨h0, h2⟩
            · rw [if_neg e]; exact w5 q hq
        · rw [if_neg (by rw [l4, i_lt (by omega) (by decide)]; exact h4), if_neg h4, wp_some]
          exact ⟨rfl, hA, w1, w2, w3, w4, w5, w6, w7, w8, w9, w10, w11, w12, w13⟩
      · rw [if_neg h2, if_neg (fun q => h2 q.2), wp_some]
        exact ⟨rfl, hA, w1, w2, w3, w4, w5, w6, w7, w8, w9, w10, w11, w12, w13⟩
    · rw [if_pos (i_neg h0), if_neg (fun q => h0 q.1), wp_some]
      exact ⟨rfl, hA, w1, w2, w3, w4, w5, w6, w7, w8, w9, w10, w11, w12, w13⟩
