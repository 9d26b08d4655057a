/-! The class's calls: order, collect, now, session, found, seen, about, renew. Ours. -/
theorem Session_hasPatterns_L {n s : Nat} {pt : Nat → List Fm} {σ : J} (hs : s < n) (hst : cSt n σ) (hG : ∀ p, p < 3 → cG σ (6 + 3 * s + p) (pt p)) (hok : ∀ p, p < 3 → (pt p).length ≤ 4) {j : Nat} (hj : j ≤ 3) :
    ∀ (m p f : Nat), p + m = j → m < f → Session_hasPatterns_L14 n f s (i j) (i p) σ = some (b01 ((List.range' p m).all fun p => !(pt p).isEmpty), σ) := by
  intro m
  induction m with
  | zero =>
    intro p f hp hf
    obtain ⟨f, rfl⟩ : ∃ g, f = g + 1 := ⟨f - 1, by omega⟩
    unfold Session_hasPatterns_L14 Session_hasPatterns_b14
    rw [if_pos (by rw [i_le (by omega) (by omega)]; omega)]
    simp only [and1_1, if_true]
    rfl
  | succ m ih =>
    intro p f hp hf
    obtain ⟨f, rfl⟩ : ∃ g, f = g + 1 := ⟨f - 1, by omega⟩
    have hl := hok p (by omega)
    unfold Session_hasPatterns_L14 Session_hasPatterns_b14
    rw [if_neg (by rw [i_le (by omega) (by omega)]; omega), if_pos (by rw [i_in (by omega)]; omega), i_n (by omega), hst.2.2.1 s p hs (by omega), if_pos (by rw [blt_eq]; omega), (hG p (by omega)).1, List.range'_succ, List.all_cons]
    simp only [and1_0, if_true]
    cases hpt : pt p with
    | nil =>
      rw [if_pos (show i ([] : List Fm).length = 0 from rfl)]
      rfl
    | cons a r =>
      rw [hpt, List.length_cons] at hl
      rw [if_neg (by rw [List.length_cons, l0, i_eq (by omega) (by decide)]; omega), l1, i_add, ih (p + 1) f (by omega) (by omega)]
      rfl
theorem Session_hasPatterns_s {n s f : Nat} {x : Int32} {pt : Nat → Nat → List Fm} {σ : J} (hs : s < n) (hst : cSt n σ) (hG : cPs n σ pt) (hok : ∀ p, p < 3 → okGs (pt s p)) (hf : 10 ≤ f) : Session_hasPatterns n f s x σ = some (b01 (a_hasP (pt s) x), σ) := by
  unfold Session_hasPatterns Session_hasPatterns_b0 Session_hasPatterns_b10 a_hasP
  simp only [and1_0, if_true]
  by_cases h1 : 1 ≤ x
  · have h0 : 0 ≤ x := by
      rw [Int32.le_iff_toInt_le] at h1 ⊢
      have e1 : (1 : Int32).toInt = 1 := rfl
      have e2 : (0 : Int32).toInt = 0 := rfl
      omega
    rw [if_neg (nlt_of_le h1), decide_eq_true h1, Bool.true_and]
    by_cases h3 : x ≤ 3
    · rw [if_pos h3, decide_eq_true h3, Bool.true_and]
      have h4 := h3
      rw [i_of h0, l3, i_le (i_cl x) (by decide)] at h4
      have := Session_hasPatterns_L (n := n) (pt := pt s) hs hst (fun p hp => hG s p hs hp) (fun p hp => (hok p hp).1) h4 x.toNatClampNeg 0 f (by omega) (by omega)
      rw [← i_of h0] at this
      rw [List.range_eq_range']
      exact this
    · rw [if_neg h3, decide_eq_false h3, Bool.false_and]; rfl
  · rw [if_pos (lt_of_nle h1), decide_eq_false h1, Bool.false_and, Bool.false_and]; rfl
theorem hasP_1 {pt : Nat → List Fm} : a_hasP pt 1 = !(pt 0).isEmpty := by
  unfold a_hasP
  show (true && true && ((!(pt 0).isEmpty) && true)) = _
  cases (pt 0).isEmpty <;> rfl
theorem isE {l : List Fm} : (!l.isEmpty) = decide (l ≠ []) := by cases l <;> simp
theorem JB_order_s {n f : Nat} {x : Int32} {a : Sq} {σ : J} (hA : cA n σ a) (hw : wfA n a) (hf : 10 ≤ f) : wp (JB_order n f x σ) (fun q => q.1 = (o_order n x a).1 ∧ cA n q.2 (o_order n x a).2 ∧ wfA n (o_order n x a).2) := by
  obtain ⟨now, lat, ts, line, dl, dr, pt, la, jo, tk, fn, os⟩ := a
  unfold JB_order JB_order_b0 o_order
  rw [JB_readySession_s hA hw, some_bind]
  dsimp only
  cases hfi : a_first n line x with
  | inr e => rw [wp_some]; exact ⟨rfl, hA, hw⟩
  | inl s =>
    have hw' := hw
    obtain ⟨w1, w2, w3, w4, w5, w6, w7, w8, w9, w10, w11, w12, w13⟩ := hw'
    obtain ⟨hs, -, -⟩ := first_i w13 hfi
    have hA' := hA
    obtain ⟨g1, g2, g3, g4, g5, g6, g7, g8, g9, g10, g11, g12⟩ := hA'
    dsimp only
    rw [if_pos (by rw [blt_eq]; omega), Session_hasPatterns_s (n := n) hs g1 g8 (fun p hp => w6 s p hs hp) hf, some_bind, hasP_1, isE]
    dsimp only
    by_cases hp : pt s 0 ≠ []
    · rw [decide_eq_true hp, if_neg (show ¬ b01 true = 0 by decide), if_pos hp, g12.1]
      by_cases h6 : os.length < 6
      · rw [if_pos (by rw [l6, i_lt (by omega) (by decide)]; exact h6), if_pos h6, if_pos (by rw [i_in (by omega)]; exact h6), i_n (by omega), g1.2.2.2 _ h6, if_pos (by rw [blt_eq]; exact h6), if_pos (show q_in 0 3 = true by decide), show (0 : Int32).toNatClampNeg = 0 from rfl, g1.2.2.1 s 0 hs (by decide), if_pos (by rw [blt_eq]; omega)]
        refine wp_bind (Pattern_copyFrom_s (n := n) (z := os.length) (g8 s 0 hs (by decide)) (w6 s 0 hs (by decide)).1 (by omega)) (fun τ hτ => ?_)
        obtain ⟨t1, t2⟩ := hτ
        rw [bs_eq, wp_some, (t2 0 0 (by omega)).1, g12.1]
        have hf : fr (fun a b => (8 ≤ a ∧ a ≤ 11 ∧ b = os.length) ∨ (a = 0 ∧ b = 0)) σ (q_sI τ 0 4 0 (i os.length + 1)) := (t2.up (fun a b q => Or.inl q)).sI (Or.inr ⟨rfl, rfl⟩)
        refine ⟨?_, ⟨g1.fr hf (by omega) (fun q _ => Or.inl (by omega)) (fun q _ => (by omega)) (by omega), ?_, by rw [(hf 2 0 (by omega)).1]; exact g3, g4.fr hf (by omega) (by omega) (fun z _ => (by omega)), g5.fr hf (by omega) (by omega), fun q hq => by rw [(hf 16 q (by omega)).1]; exact g6 q hq, fun q hq => (g7 q hq).fr hf (by omega) (by omega) (by omega), g8.fr hf (fun a z _ _ _ => by omega), fun q hq => by rw [(hf 16 q (by omega)).1]; exact g9 q hq, fun q hq => by rw [(hf 16 q (by omega)).1, (hf 16 q (by omega)).1]; exact g10 q hq, fun q hq => (g11 q hq).fr hf (by omega) (by omega) (by omega) (by omega), ?_⟩, w1, w2, w3, w4, w5, w6, w7, w8, fun o ho => ?_, ?_, w11, w12, w13⟩
        · rw [sI1, if_pos ⟨rfl, rfl, rfl⟩, l1, i_add, i_sub (by omega), Nat.add_sub_cancel]
        · rw [sI1, if_neg (by omega), (t2 0 0 (by omega)).1]; exact g2
        · refine ⟨?_, fun j o ho => ?_, fun j hj1 hj2 => ?_⟩
          · rw [sI1, if_pos ⟨rfl, rfl, rfl⟩, l1, i_add, List.length_append]; rfl
          · by_cases e : j = os.length
            · subst e
              rw [List.getElem?_append_right (Nat.le_refl _), Nat.sub_self] at ho
              cases ho
              have hz := g12.2.2 os.length (Nat.le_refl _) h6
              refine ⟨t1, ?_, (show AR _ [] from fun j x hx => by cases hx), ?_⟩
              · rw [sI1, if_neg (by omega), (t2 18 _ (by omega)).1]; exact hz.1
              · rw [sI1, if_neg (by omega), (t2 18 _ (by omega)).1]; exact hz.2
            · have hl := (List.getElem?_eq_some_iff.mp ho).1
              rw [List.length_append] at hl
              replace hl : j < os.length + 1 := hl
              rw [List.getElem?_append_left (by omega)] at ho
              exact (g12.2.1 j o ho).fr hf (fun a _ _ => by omega) (by omega) (by omega)
          · rw [List.length_append] at hj1
            replace hj1 : os.length + 1 ≤ j := hj1
            rw [(hf 18 j (by omega)).1, (hf 18 j (by omega)).1]
            exact g12.2.2 j (by omega) hj2
        · rcases List.mem_append.mp ho with ho | ho
          · exact w9 o ho
          · rw [List.mem_singleton.mp ho]; exact ⟨w6 s 0 hs (by decide), (show 0 ≤ 5 by decide)⟩
        · rw [List.length_append]; show os.length + 1 ≤ 6; omega
      · rw [if_neg (by rw [l6, i_lt (by omega) (by decide)]; exact h6), if_neg h6, wp_some]
        exact ⟨rfl, hA, hw⟩
    · rw [decide_eq_false hp, if_pos (show b01 false = 0 from rfl), if_neg hp, wp_some]
      exact ⟨rfl, hA, hw⟩
theorem JB_collect_s {n : Nat} {k : Int32} {a : Sq} {σ : J} (hA : cA n σ a) (hw : wfA n a) : wp (JB_collect n k σ) (fun q => q.1 = (o_collect k a).1 ∧ cA n q.2 (o_collect k a).2 ∧ wfA n (o_collect k a).2) := by
  obtain ⟨now, lat, ts, line, dl, dr, pt, la, jo, tk, fn, os⟩ := a
  have hw' := hw
  obtain ⟨w1, w2, w3, w4, w5, w6, w7, w8, w9, w10, w11, w12, w13⟩ := hw'
  have hA' := hA
  obtain ⟨g1, g2, g3, g4, g5, g6, g7, g8, g9, g10, g11, g12⟩ := hA'
  unfold JB_collect JB_collect_b0 JB_collect_b12 o_collect
  dsimp only
  by_cases h0 : 0 ≤ k
  · rw [if_neg (nlt_of_le h0), if_pos h0]
    obtain ⟨m, hm, e1, e2⟩ : ∃ m, m < 2147483648 ∧ k = i m ∧ k.toNatClampNeg = m := ⟨_, i_cl k, i_of h0, rfl⟩
    rw [e2, e1, g12.1]
    by_cases hl : m < os.length
    · rw [if_pos (by rw [i_lt hm (by omega)]; exact hl), if_pos (by rw [i_in hm]; omega), g1.2.2.2 m (by omega), if_pos (by rw [blt_eq]; omega)]
      have ho : os[m]? = some os[m] := List.getElem?_eq_getElem hl
      rw [ho]
      have hw9 := w9 os[m] (List.getElem_mem hl)
      refine wp_bind (Order_takeOldest_s (n := n) (g12.2.1 m _ ho) hw9.2) (fun q hq => ?_)
      obtain ⟨q1, q2, hf⟩ := hq
      rw [wp_some, q1]
      refine ⟨rfl, ⟨g1.fr hf (by omega) (fun q _ => Or.inl (by omega)) (fun q _ => (by omega)) (by omega), by rw [(hf 0 0 (by omega)).1]; exact g2, by rw [(hf 2 0 (by omega)).1]; exact g3, g4.fr hf (by omega) (by omega) (fun z _ => (by omega)), g5.fr hf (by omega) (by omega), fun q hq => by rw [(hf 16 q (by omega)).1]; exact g6 q hq, fun q hq => (g7 q hq).fr hf (by omega) (by omega) (by omega), g8.fr hf (fun a z _ _ _ => (by omega)), fun q hq => by rw [(hf 16 q (by omega)).1]; exact g9 q hq, fun q hq => by rw [(hf 16 q (by omega)).1, (hf 16 q (by omega)).1]; exact g10 q hq, fun q hq => (g11 q hq).fr hf (by omega) (by omega) (by omega) (by omega), ?_⟩, w1, w2, w3, w4, w5, w6, w7, w8, fun o ho' => ?_, by rw [List.length_set]; exact w10, w11, w12, w13⟩
      · refine ⟨by rw [List.length_set, (hf 0 0 (by omega)).1]; exact g12.1, fun j o ho' => ?_, fun j hj1 hj2 => ?_⟩
        · by_cases e : j = m
          · subst e
            rw [List.getElem?_set_self hl] at ho'
            cases ho'
            exact q2
          · rw [List.getElem?_set_ne (fun h => e h.symm)] at ho'
            exact (g12.2.1 j o ho').fr hf (fun a _ _ => by omega) (by omega) (by omega)
        · rw [List.length_set] at hj1
          rw [(hf 18 j (by omega)).1, (hf 18 j (by omega)).1]
          exact g12.2.2 j hj1 hj2
      · rcases List.mem_or_eq_of_mem_set ho' with h | h
        · exact w9 o h
        · rw [h]
          unfold a_collect
          cases hr : (os[m]).2.1 with
          | nil => exact hw9
          | cons y r =>
            refine ⟨hw9.1, ?_⟩
            have := hw9.2
            rw [hr, List.length_cons] at this
            show r.length ≤ 5
            omega
    · rw [if_neg (by rw [i_lt hm (by omega)]; exact hl), List.getElem?_eq_none (by omega), wp_some]
      exact ⟨rfl, hA, hw⟩
  · rw [if_pos (i_neg h0), if_neg h0, wp_some]
    exact ⟨rfl, hA, hw⟩
theorem JB_session_s {n f : Nat} {x w : Int32} {a : Sq} {σ : J} (hA : cA n σ a) (hw : wfA n a) (hf : 10 ≤ f) : JB_session n f x w σ = some (o_session n x w a, σ) := by
  obtain ⟨now, lat, ts, line, dl, dr, pt, la, jo, tk, fn, os⟩ := a
  obtain ⟨w1, w2, w3, w4, w5, w6, w7, w8, w9, w10, w11, w12, w13⟩ := hw
  obtain ⟨g1, g2, g3, g4, g5, g6, g7, g8, g9, g10, g11, g12⟩ := hA
  unfold JB_session JB_session_b0 o_session
  rw [JB_sessionAt_s w13 g1, some_bind]
  dsimp only
  cases h : a_sess n x with
  | false => rw [if_neg (show ¬ false = true by decide), if_neg (show ¬ false = true by decide)]
  | true =>
    obtain ⟨s, hs, e1, e2⟩ := sess_i w13 h
    rw [if_pos rfl, if_pos rfl, e2]
    dsimp only
    rw [if_pos (by rw [blt_eq]; omega), g9 s hs, g6 s hs, (g7 s hs).1, Line_placeOf_s g5 hf, some_bind]
    unfold JB_session_b66
    simp only [lo]
    have hp : ∀ m, m < 3 → (if q_in (i (m + 3) - 3) 3 = true then if Nat.blt (σ.2.2.2 17 s (i (m + 3) - 3).toNatClampNeg) (6 + 3 * n) = true then some ((Sum.inl (σ.1 8 0 (σ.2.2.2 17 s (i (m + 3) - 3).toNatClampNeg)) : Int32 ⊕ Nat), σ) else none else none) = some (.inl (i (pt s m).length), σ) := by
      intro m hm
      rw [l3, i_sub (by omega), Nat.add_sub_cancel, if_pos (by rw [i_in (by omega)]; exact hm), i_n (by omega), g1.2.2.1 s m hs hm, if_pos (by rw [blt_eq]; omega), (g8 s m hs hm).1]
    by_cases h0 : w = i 0
    · subst h0; rfl
    by_cases h1 : w = i 1
    · subst h1; rfl
    by_cases h2 : w = i 2
    · subst h2; rfl
    by_cases h3 : w = i 3
    · subst h3; exact hp 0 (by decide)
    by_cases h4 : w = i 4
    · subst h4; exact hp 1 (by decide)
    by_cases h5 : w = i 5
    · subst h5; exact hp 2 (by decide)
    by_cases h6 : w = i 6
    · subst h6; rfl
    simp only [h0, h1, h2, h3, h4, h5, h6, if_false]
    rfl
theorem w_i {w : Int32} (h0 : 0 ≤ w) : ∃ m, m < 2147483648 ∧ w = i m ∧ w.toNatClampNeg = m := ⟨_, i_cl w, i_of h0, rfl⟩
theorem JB_found_s {n : Nat} {x w : Int32} {a : Sq} {σ : J} (hA : cA n σ a) (hw : wfA n a) : JB_found n x w σ = some (o_found n x w a, σ) := by
  obtain ⟨now, lat, ts, line, dl, dr, pt, la, jo, tk, fn, os⟩ := a
  obtain ⟨w1, w2, w3, w4, w5, w6, w7, w8, w9, w10, w11, w12, w13⟩ := hw
  obtain ⟨g1, g2, g3, g4, g5, g6, g7, g8, g9, g10, g11, g12⟩ := hA
  unfold JB_found JB_found_b0 JB_found_b25 JB_found_b45 JB_found_b66 o_found
  rw [JB_sessionAt_s w13 g1, some_bind]
  dsimp only
  cases h : a_sess n x with
  | false => rw [if_neg (show ¬ false = true by decide), if_neg (show ¬ false = true by decide)]
  | true =>
    obtain ⟨s, hs, e1, e2⟩ := sess_i w13 h
    rw [if_pos rfl, if_pos rfl, e2]
    dsimp only
    rw [if_pos (by rw [blt_eq]; omega)]
    unfold a_found
    by_cases h0 : 0 ≤ w
    · obtain ⟨m, hm, e3, e4⟩ := w_i h0
      subst e3
      rw [e4]
      have hN := g11 s hs
      simp only [l0, l2, l3, l6, l7, l10, show (11 : Int32) = i 11 from rfl]
      simp (disch := omega) only [i_lt]
      rw [if_neg (show ¬ m < 0 by omega), if_neg (show ¬ m < 0 by omega)]
      by_cases h2 : m < 3
      · rw [if_neg (show ¬ 2 < m by omega), Finding_numberFor_s hN h2, some_bind, if_pos h2]
      · rw [if_pos (show 2 < m by omega), if_neg h2, if_neg h2]
        by_cases h6 : m < 7
        · rw [if_neg (show ¬ 6 < m by omega), i_sub (by omega), Finding_kindOf_s hN (show m - 3 < 4 by omega), some_bind, if_pos h6]
          cases (fn s).2 (m - 3) <;> rfl
        · rw [if_pos (show 6 < m by omega), if_neg h6, if_neg h6]
          by_cases h10 : m < 11
          · rw [if_neg (show ¬ 10 < m by omega), i_sub (by omega), Finding_valueOf_s hN (show m - 7 < 4 by omega), some_bind, if_pos h10]
            cases (fn s).2 (m - 7) <;> rfl
          · rw [if_pos (show 10 < m by omega), if_neg h10]
    · have hlt := i_neg h0
      have hl : ∀ {k : Nat}, k < 100 → w < i k := by
        intro k hk
        rw [Int32.lt_iff_toInt_lt] at hlt ⊢
        rw [i_t (by omega)]
        have e0 : (0 : Int32).toInt = 0 := rfl
        omega
      rw [if_pos hlt, if_pos hlt, if_pos (show w < 3 from hl (k := 3) (by decide)), if_pos (show w < 7 from hl (k := 7) (by decide))]
theorem JB_seen_L {n u : Nat} {x k : Int32} {σ : J} (hu : u ≤ 20) (hu1 : σ.1 2 1 0 = i u) (hP : okP (σ.2.2.2 3 0)) : ∀ (m j f b : Nat) (ts : List Tp), Rw (σ.2.2.2 3 0) σ j m ts → j + m = u → m < f → b ≤ j → (0 ≤ k → b ≤ k.toNatClampNeg) → JB_seen_L11 n f x k (i b) (i j) σ = some (.inl (if 0 ≤ k then (match (ts.filter (a_sees x))[k.toNatClampNeg - b]? with | some t => t_num t | none => im) else im), σ) := by
  intro m
  induction m with
  | zero =>
    intro j f b ts h hj hf hb hk
    obtain ⟨f, rfl⟩ : ∃ g, f = g + 1 := ⟨f - 1, by omega⟩
    rw [show ts = [] from h]
    unfold JB_seen_L11 JB_seen_b11
    rw [hu1, if_pos (by rw [i_le (by omega) (by omega)]; omega)]
    by_cases h0 : 0 ≤ k
    · rw [if_pos h0]; rfl
    · rw [if_neg h0]; rfl
  | succ m ih =>
    intro j f b ts h hj hf hb hk
    obtain ⟨f, rfl⟩ : ∃ g, f = g + 1 := ⟨f - 1, by omega⟩
    have hPj : Nat.blt (σ.2.2.2 3 0 j) 20 = true := by rw [blt_eq]; exact hP.1 j (by omega)
    have hin : q_in (i j) 20 = true := by rw [i_in (by omega)]; omega
    unfold JB_seen_L11 JB_seen_b11 JB_seen_b58
    rw [hu1, if_neg (by rw [i_le (by omega) (by omega)]; omega), if_pos hin, i_n (by omega), if_pos hPj]
    rcases h with ⟨h1, h2⟩ | ⟨t, ts1, rfl, h2, h3⟩
    · rw [off_sees h1, some_bind, if_pos (show b01 false = 0 from rfl), l1, i_add]
      exact ih (j + 1) f b ts h2 (by omega) (by omega) (by omega) hk
    · rw [h2.sees, some_bind, List.filter_cons]
      dsimp only
      cases hs : a_sees x t with
      | false =>
        rw [if_pos (show b01 false = 0 from rfl), if_neg (show ¬ false = true by decide), l1, i_add]
        exact ih (j + 1) f b ts1 h3 (by omega) (by omega) (by omega) hk
      | true =>
        rw [if_neg (show ¬ b01 true = 0 by decide), if_pos rfl]
        by_cases h0 : 0 ≤ k
        · obtain ⟨q, hq, e1, e2⟩ := w_i h0
          have hk1 := hk h0
          rw [e2] at hk1
          rw [if_pos h0, e2]
          by_cases hbq : b = q
          · rw [if_pos (by rw [e1, hbq]), hbq, Nat.sub_self, h2.2.1]
            rfl
          · rw [if_neg (by rw [e1, i_eq (by omega) hq]; exact hbq), l1, i_add, i_add, ih (j + 1) f (b + 1) ts1 h3 (by omega) (by omega) (by omega) (fun _ => by omega), if_pos h0, e2]
            obtain ⟨d, hd⟩ : ∃ d, q - b = d + 1 := ⟨q - b - 1, by omega⟩
            rw [hd, show q - (b + 1) = d by omega]
            rfl
        · rw [if_neg h0, if_neg (fun e => h0 (by rw [← e]; exact (i_le (a := 0) (by decide) (by omega)).mpr (by omega))), l1, i_add, i_add, ih (j + 1) f (b + 1) ts1 h3 (by omega) (by omega) (by omega) (fun h => absurd h h0), if_neg h0]
theorem JB_seen_s {n f : Nat} {x k : Int32} {a : Sq} {σ : J} (hA : cA n σ a) (hw : wfA n a) (hf : 30 ≤ f) : JB_seen n f x k σ = some (o_seen n x k a, σ) := by
  obtain ⟨now, lat, ts, line, dl, dr, pt, la, jo, tk, fn, os⟩ := a
  obtain ⟨w1, w2, w3, w4, w5, w6, w7, w8, w9, w10, w11, w12, w13⟩ := hw
  obtain ⟨g1, g2, g3, g4, g5, g6, g7, g8, g9, g10, g11, g12⟩ := hA
  unfold JB_seen JB_seen_b0 o_seen
  rw [JB_sessionAt_s w13 g1, some_bind]
  dsimp only
  cases h : a_sess n x with
  | false => rw [if_neg (show ¬ false = true by decide), if_neg (show ¬ false = true by decide)]
  | true =>
    obtain ⟨s, hs, e1, e2⟩ := sess_i w13 h
    rw [if_pos rfl, if_pos rfl, e2]
    dsimp only
    rw [if_pos (by rw [blt_eq]; omega)]
    obtain ⟨u, u1, u2, u3, u4⟩ := g4
    exact JB_seen_L (n := n) u1 u2 u3 u 0 f 0 ts u4 (by omega) (by omega) (by omega) (fun _ => Nat.zero_le _)

theorem find_mid {pre post : List Tp} {t : Tp} {N : Int32} (h : ((pre ++ t :: post).map t_num).Nodup) (hN : t_num t = N) : (pre ++ t :: post).find? (fun t => decide (t_num t = N)) = some t := by
  obtain ⟨h1, h2⟩ := nodup_mid h
  rw [List.find?_append, List.find?_eq_none.mpr (fun u hu => by rw [← hN]; simpa using h1 u hu), List.find?_cons_of_pos (by simpa using hN)]
  rfl
theorem find_no {ts : List Tp} {N : Int32} (h : ∀ t ∈ ts, t_num t ≠ N) : ts.find? (fun t => decide (t_num t = N)) = none := List.find?_eq_none.mpr (fun u hu => by simpa using h u hu)
theorem JB_about_s {n f : Nat} {m w : Int32} {a : Sq} {σ : J} (hA : cA n σ a) (hw : wfA n a) (hf : 30 ≤ f) : JB_about n f m w σ = some (o_about m w a, σ) := by
  obtain ⟨now, lat, ts, line, dl, dr, pt, la, jo, tk, fn, os⟩ := a
  obtain ⟨w1, w2, w3, w4, w5, w6, w7, w8, w9, w10, w11, w12, w13⟩ := hw
  obtain ⟨g1, g2, g3, g4, g5, g6, g7, g8, g9, g10, g11, g12⟩ := hA
  unfold JB_about JB_about_b0 JB_about_b106 o_about
  dsimp only
  rcases Board_lookUp_s (n := n) (f := f) (N := m) g4 hf with ⟨e1, e2⟩ | ⟨z, t, pre, post, hz, e1, e2, e3, e4, -⟩
  · rw [e1, some_bind, find_no e2]
  · have hfl := (w1.2 t (by rw [e2]; simp)).2.2.2.2.1
    rw [e1, some_bind, e2, find_mid (by rw [← e2]; exact w1.1) e4]
    dsimp only
    rw [if_pos (by rw [blt_eq]; exact hz), e3.2.2.1, e3.2.2.2.1, e3.2.2.2.2.2.1, e3.2.2.2.2.2.2.2.1, Fields_kindAt_s e3.2.2.2.2.2.2.2 hfl, Fields_valueAt_s e3.2.2.2.2.2.2.2 hfl, some_bind, some_bind]
    simp only [lo]
    unfold a_about
    by_cases h0 : w = i 0
    · subst h0; rfl
    by_cases h1 : w = i 1
    · subst h1; rfl
    by_cases h2 : w = i 2
    · subst h2; rfl
    by_cases h3 : w = i 3
    · subst h3; rfl
    simp only [h0, h1, h2, h3, if_false]
    by_cases hp : 0 ≤ w
    · obtain ⟨k, hk, e5, e6⟩ := w_i hp
      subst e5
      rw [e6]
      rw [i_eq hk (by decide)] at h0 h1 h2 h3
      simp only [l0, l4, l8]
      simp (disch := omega) only [i_lt, i_sub, i_n, i_le]
      rw [if_neg (show ¬ k < 0 by omega)]
      by_cases h8 : k < 8
      · rw [if_pos h8, if_pos h8, if_pos (Nat.zero_le _)]
        cases (t_fs t)[k - 4]? <;> rfl
      · rw [if_neg h8, if_neg h8]
        rfl
    · have hlt := i_neg hp
      have h8 : w < 8 := by
        rw [Int32.lt_iff_toInt_lt] at hlt ⊢
        have e0 : (0 : Int32).toInt = 0 := rfl
        have e8 : (8 : Int32).toInt = 8 := rfl
        omega
      rw [if_pos h8, if_pos hlt]
      have hnn : ∀ x : FV, (t_fs t)[(w - 4).toNatClampNeg]? = some x → 0 ≤ w - 4 → False := by
        intro x hx h
        have hl := (List.getElem?_eq_some_iff.mp hx).1
        have e5 := i_of h
        generalize (w - 4).toNatClampNeg = k at hl e5
        have e6 : w = i (k + 4) := by
          rw [← i_add, ← e5]
          exact (Int32.sub_add_cancel w 4).symm
        rw [e6, l0, i_lt (by omega) (by decide)] at hlt
        omega
      by_cases h4 : 0 ≤ w - 4
      · rw [if_pos h4]
        cases hx : (t_fs t)[(w - 4).toNatClampNeg]? with
        | none => rfl
        | some x => exact absurd h4 (fun q => hnn x hx q)
      · rw [if_neg h4]
        rfl
