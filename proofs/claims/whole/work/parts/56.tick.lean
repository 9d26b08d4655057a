/-! The class's clock. Ours. -/
theorem fm_num {g : Tp → Option Tp} (hg : ∀ t t1, g t = some t1 → t_num t1 = t_num t) : ∀ (ts : List Tp), ((ts.filterMap g).map t_num).Sublist (ts.map t_num) := by
  intro ts
  induction ts with
  | nil => exact List.Sublist.slnil
  | cons t ts ih =>
    rw [List.filterMap_cons]
    cases h : g t with
    | none => exact ih.cons _
    | some t1 =>
      show (t_num t1 :: _).Sublist (t_num t :: _)
      rw [hg t t1 h]
      exact ih.cons_cons _
theorem okTs_fm {n now lat : Nat} {dl : Nat → Nat} {ts : List Tp} {g : Tp → Option Tp} (h : okTs n now lat dl ts) (hg : ∀ t t1, g t = some t1 → t_num t1 = t_num t ∧ (okT n now lat dl t → okT n now lat dl t1)) : okTs n now lat dl (ts.filterMap g) := by
  refine ⟨h.1.sublist (fm_num (fun t t1 e => (hg t t1 e).1) ts), fun t ht => ?_⟩
  obtain ⟨u, hu, e⟩ := List.mem_filterMap.mp ht
  exact (hg u t e).2 (h.2 u hu)
theorem okTs_undo {n now lat s d : Nat} {dl : Nat → Nat} {ts : List Tp} (h : okTs n now lat dl ts) : okTs n now lat dl (a_undo s d ts) := by
  refine okTs_fm h (fun t t1 e => ?_)
  unfold a_undo1 at e
  split at e
  · cases e
  · split at e
    · cases e
      exact ⟨rfl, fun ⟨h1, h2, h3, h4, h5⟩ => ⟨h1, h2, h3, Or.inl ⟨rfl, rfl⟩, h5⟩⟩
    · cases e
      exact ⟨rfl, id⟩
theorem okTs_filter {n now lat : Nat} {dl : Nat → Nat} {ts : List Tp} {p : Tp → Bool} (h : okTs n now lat dl ts) : okTs n now lat dl (ts.filter p) := ⟨h.1.sublist (List.Sublist.map _ List.filter_sublist), fun t ht => h.2 t (List.mem_filter.mp ht).1⟩
theorem okTs_down {n now lat s d : Nat} {dl : Nat → Nat} : ∀ {c : Nat} {ts : List Tp} {fr : Bool}, okTs n now lat dl ts → okTs n now lat dl (a_down s d c ts fr).1 := by
  intro c
  induction c with
  | zero => intro ts fr h; exact h
  | succ c ih =>
    intro ts fr h
    unfold a_down
    split
    · exact h
    · exact ih (okTs_undo h)
/-- none is taken by s in a deal above c -/
def tkLe (s c : Nat) (ts : List Tp) : Prop := ∀ t ∈ ts, t_tS t = i s → t_tD t = im ∨ ∃ e, 1 ≤ e ∧ e ≤ c ∧ t_tD t = i e
theorem tkLe_undo {s c : Nat} {ts : List Tp} (h : tkLe s (c + 1) ts) : tkLe s c (a_undo s (c + 1) ts) := by
  intro t ht hs
  obtain ⟨u, hu, e⟩ := List.mem_filterMap.mp ht
  unfold a_undo1 at e
  split at e
  · cases e
  · split at e
    · cases e; exact Or.inl rfl
    · rename_i hT
      cases e
      rcases h t hu hs with q | ⟨e, e1, e2, e3⟩
      · exact Or.inl q
      · refine Or.inr ⟨e, e1, ?_, e3⟩
        by_cases he : e = c + 1
        · exact absurd (show a_isT (i s) (i (c + 1)) t = true from by
            unfold a_isT
            rw [Bool.and_eq_true, decide_eq_true_iff, decide_eq_true_iff]
            exact ⟨hs, by rw [e3, he]⟩) hT
        · omega
theorem tkLe_down {s d : Nat} (hd : 1 ≤ d) : ∀ {c : Nat} {ts : List Tp} {fr : Bool}, tkLe s c ts → tkLe s (d - 1) (a_down s d c ts fr).1 := by
  intro c
  induction c with
  | zero =>
    intro ts fr h t ht hs
    rcases h t ht hs with q | ⟨e, e1, e2, e3⟩
    · exact Or.inl q
    · omega
  | succ c ih =>
    intro ts fr h
    unfold a_down
    split
    · intro t ht hs
      rcases h t ht hs with q | ⟨e, e1, e2, e3⟩
      · exact Or.inl q
      · exact Or.inr ⟨e, e1, by omega, e3⟩
    · exact ih (tkLe_undo h)
theorem okTs.tk {n now lat s : Nat} {dl : Nat → Nat} {ts : List Tp} (h : okTs n now lat dl ts) (hn : n ≤ 4) (hs : s < 4) : tkLe s (dl s) ts := by
  intro t ht e
  obtain ⟨-, -, -, h4, -⟩ := h.2 t ht
  rcases h4 with q | ⟨s1, d1, q1, q2, q3, q4, q5⟩
  · exact Or.inl q.2
  · rw [q4, i_eq (by omega) (by omega)] at e
    subst e
    exact Or.inr ⟨d1, q2, q3, q5⟩
theorem okTs_dl {n now lat s d : Nat} {dl : Nat → Nat} {ts : List Tp} (h : okTs n now lat dl ts) (hn : n ≤ 4) (h4 : ∀ s, s < n → dl s ≤ 4) (hd : d ≤ 4) (hk : tkLe s d ts) : okTs n now lat (va_up dl s d) ts := by
  refine ⟨h.1, fun t ht => ?_⟩
  obtain ⟨h1, h3, h5, h6, h7⟩ := h.2 t ht
  refine ⟨h1, h3, h5, ?_, h7⟩
  rcases h6 with q | ⟨s1, d1, q1, q2, q3, q4, q5⟩
  · exact Or.inl q
  · refine Or.inr ⟨s1, d1, q1, q2, ?_, q4, q5⟩
    unfold va_up
    have := h4 s1 q1
    by_cases e : s1 = s
    · rw [if_pos e]
      rcases hk t ht (by rw [q4, e]) with g | ⟨e1, g1, g2, g3⟩
      · rw [q5] at g
        exact absurd g (i_pos q2 (by omega))
      · rw [q5, i_eq (by omega) (by omega)] at g3
        omega
    · rw [if_neg e]; exact q3
theorem cA_dl {n s d : Nat} {now lat : Nat} {ts ts1 : List Tp} {line : List Nat} {dl : Nat → Nat} {dr : Nat → List FV} {pt : Nat → Nat → List Fm} {la : Nat → Int32} {jo : Nat → Nat} {tk : Nat → Bool} {fn : Nat → Fq} {os : List Od} {σ τ : J} (h : cA n σ (now, lat, ts, line, dl, dr, pt, la, jo, tk, fn, os)) (hB : cB τ ts1) (hf : fr (fun a b => Z4 a b ∨ (a = 16 ∧ b = s)) σ τ) (h5 : τ.1 16 4 s = i d) (hk : ∀ f, f ≠ 4 → τ.1 16 f s = σ.1 16 f s) : cA n τ (now, lat, ts1, line, va_up dl s d, dr, pt, la, jo, tk, fn, os) := by
  obtain ⟨g1, g2, g3, g4, g5, g6, g7, g8, g9, g10, g11, g12⟩ := h
  have hz : ∀ a b, (a ≠ 4 ∨ 20 ≤ b) → (a ≠ 16 ∨ b ≠ s) → ¬ (Z4 a b ∨ (a = 16 ∧ b = s)) := fun a b h1 h2 q => by unfold Z4 at q; omega
  have e16 : ∀ f z, f ≠ 4 → τ.1 16 f z = σ.1 16 f z := fun f z hfz => by
    by_cases e : z = s
    · rw [e]; exact hk f hfz
    · exact (hf 16 z (hz _ _ (by omega) (by omega))).1 f
  refine ⟨g1.fr hf (hz _ _ (by omega) (by omega)) (fun q _ => Or.inr (e16 0 q (by decide))) (fun q _ => hz _ _ (by omega) (by omega)) (hz _ _ (by omega) (by omega)), ?_, ?_, hB, g5.fr hf (hz _ _ (by omega) (by omega)) (hz _ _ (by omega) (by omega)), ?_, ?_, g8.fr hf (fun a z _ _ _ => hz _ _ (by omega) (by omega)), ?_, ?_, ?_, ?_, ?_, ?_⟩
  · rw [(hf 0 0 (hz _ _ (by omega) (by omega))).1]; exact g2
  · rw [(hf 2 0 (hz _ _ (by omega) (by omega))).1]; exact g3
  · intro q hq
    unfold va_up
    by_cases e : q = s
    · rw [e, if_pos rfl]; exact h5
    · rw [if_neg e, (hf 16 q (hz _ _ (by omega) (by omega))).1]; exact g6 q hq
  · exact fun q hq => (g7 q hq).fr hf (hz _ _ (by omega) (by omega)) (hz _ _ (by omega) (by omega)) (hz _ _ (by omega) (by omega))
  · intro q hq; rw [e16 5 q (by decide)]; exact g9 q hq
  · intro q hq; rw [e16 6 q (by decide), e16 7 q (by decide)]; exact g10 q hq
  · exact fun q hq => (g11 q hq).fr hf (hz _ _ (by omega) (by omega)) (hz _ _ (by omega) (by omega)) (hz _ _ (by omega) (by omega)) (hz _ _ (by omega) (by omega))
  · rw [(hf 0 0 (hz _ _ (by omega) (by omega))).1]; exact g12.1
  · exact fun j o ho => (g12.2.1 j o ho).fr hf (fun a _ _ => hz _ _ (by omega) (by omega)) (hz _ _ (by omega) (by omega)) (hz _ _ (by omega) (by omega))
  · intro j hj1 hj2; rw [(hf 18 j (hz _ _ (by omega) (by omega))).1, (hf 18 j (hz _ _ (by omega) (by omega))).1]; exact g12.2.2 j hj1 hj2
theorem wfA_end {n now lat : Nat} {ts : List Tp} {line : List Nat} {dl : Nat → Nat} {dr : Nat → List FV} {pt : Nat → Nat → List Fm} {la : Nat → Int32} {jo : Nat → Nat} {tk : Nat → Bool} {fn : Nat → Fq} {os : List Od} {t : Tp} (hw : wfA n (now, lat, ts, line, dl, dr, pt, la, jo, tk, fn, os)) (ht : t ∈ ts) : wfA n (now, lat, (a_end t ts line dl la).1, (a_end t ts line dl la).2.1, (a_end t ts line dl la).2.2.1, dr, pt, (a_end t ts line dl la).2.2.2.1, jo, tk, fn, os) := by
  have hw' := hw
  obtain ⟨w1, w2, w3, w4, w5, w6, w7, w8, w9, w10, w11, w12, w13⟩ := hw'
  unfold a_end
  split
  · exact ⟨okTs_filter w1, w2, w3, w4, w5, w6, w7, w8, w9, w10, w11, w12, w13⟩
  · rename_i hD
    obtain ⟨-, -, -, h4, -⟩ := w1.2 t ht
    rcases h4 with q | ⟨s, d, q1, q2, q3, q4, q5⟩
    · exact absurd q.2 hD
    · have hdl := w4 s q1
      have es : (t_tS t).toNatClampNeg = s := by rw [q4, i_n (by omega)]
      have ed : (t_tD t).toNatClampNeg = d := by rw [q5, i_n (by omega)]
      dsimp only
      rw [es, ed]
      have hl : wfA n (now, lat, ((a_down s d (dl s) ts false).1.filter (fun u => decide (t_num u ≠ t_num t))), line.erase s, va_up dl s (d - 1), dr, pt, va_up la s (i 3), jo, tk, fn, os) := by
        refine wfA_leave (s := s) (v := i 3) ⟨okTs_filter (okTs_dl (okTs_down w1) w13 w4 (by omega) (tkLe_down q2 (w1.tk w13 (by omega)))), w2, w3, fun z hz => ?_, w5, w6, w7, w8, w9, w10, w11, w12, w13⟩ (Or.inr (Or.inr rfl))
        unfold va_up
        split
        · omega
        · exact w4 z hz
      by_cases hm : s ∈ line
      · rw [if_pos hm]; exact hl
      · rw [if_neg hm]
        exact ⟨hl.1, hl.2.1, hl.2.2.1, hl.2.2.2.1, w5, w6, w7, hl.2.2.2.2.2.2.2.1, w9, w10, w11, w12, w13⟩
theorem JB_endTuple_s {n f u r : Nat} {now lat : Nat} {ts : List Tp} {line : List Nat} {dl : Nat → Nat} {dr : Nat → List FV} {pt : Nat → Nat → List Fm} {la : Nat → Int32} {jo : Nat → Nat} {tk : Nat → Bool} {fn : Nat → Fq} {os : List Od} {t : Tp} {σ : J} (hA : cA n σ (now, lat, ts, line, dl, dr, pt, la, jo, tk, fn, os)) (hw : wfA n (now, lat, ts, line, dl, dr, pt, la, jo, tk, fn, os)) (hf : 60 ≤ f) (hu : u ≤ 20) (hu1 : σ.1 2 1 0 = i u) (hP : okP (σ.2.2.2 3 0)) (hR : Rw (σ.2.2.2 3 0) σ 0 u ts) (hr : r < u) (hT : cT σ (σ.2.2.2 3 0 r) t) (ht : t ∈ ts) :
    wp (JB_endTuple n f (σ.2.2.2 3 0 r) σ) (fun q => q.1 = b01 (a_end t ts line dl la).2.2.2.2 ∧ cA n q.2 (now, lat, (a_end t ts line dl la).1, (a_end t ts line dl la).2.1, (a_end t ts line dl la).2.2.1, dr, pt, (a_end t ts line dl la).2.2.2.1, jo, tk, fn, os) ∧ kO σ q.2 ∧ q.2.1 4 0 (σ.2.2.2 3 0 r) = i 0 ∧ q.2.2.2.2 3 0 = σ.2.2.2 3 0 ∧ q.2.1 2 1 0 = i u) := by
  have hw' := hw
  obtain ⟨w1, w2, w3, w4, w5, w6, w7, w8, w9, w10, w11, w12, w13⟩ := hw'
  have hNum : σ.1 4 1 (σ.2.2.2 3 0 r) = t_num t := hT.2.1
  -- the end: the object is put aside
  have fin : ∀ (τ : J) (fr1 : Bool) (ts1 : List Tp) (line1 : List Nat) (dl1 : Nat → Nat) (la1 : Nat → Int32), cA n τ (now, lat, ts1, line1, dl1, dr, pt, la1, jo, tk, fn, os) → (ts1.map t_num).Nodup → kO σ τ → τ.2.2.2 3 0 = σ.2.2.2 3 0 → τ.1 2 1 0 = i u → Rw (σ.2.2.2 3 0) τ 0 u ts1 → wp (JB_endTuple_b43 n f (σ.2.2.2 3 0 r) (b01 fr1) τ) (fun q => q.1 = b01 fr1 ∧ cA n q.2 (now, lat, ts1.filter (fun u => decide (t_num u ≠ t_num t)), line1, dl1, dr, pt, la1, jo, tk, fn, os) ∧ kO σ q.2 ∧ q.2.1 4 0 (σ.2.2.2 3 0 r) = i 0 ∧ q.2.2.2.2 3 0 = σ.2.2.2 3 0 ∧ q.2.1 2 1 0 = i u) := by
    intro τ fr1 ts1 line1 dl1 la1 hA1 hn1 hk1 hP1 hu2 hR1
    unfold JB_endTuple_b43
    simp only [and1_0, if_true, bs_eq, b01_a, wp_some]
    have hB := cB_drop hu hu2 hP hr hR w1.1 hT.1 hP1 hR1 hn1 hk1
    rw [hNum] at hB
    have hfr : fr (fun a b => a = 4 ∧ b = σ.2.2.2 3 0 r) τ (q_sI τ 4 0 (σ.2.2.2 3 0 r) 0) := fr4
    exact ⟨trivial, cA_ts hA1 hfr (fun a b q => Or.inl ⟨q.1, by rw [q.2]; exact hP.1 r (by omega)⟩) hB (hA1.2.2.2.2.2.2.2.2.2.2.2.fr w10 hfr (by omega) (fun a z _ _ _ => by omega) (fun z _ => by omega)), hk1.tr kO.off, by rw [sI1, if_pos ⟨rfl, rfl, rfl⟩]; rfl, hP1, hu2⟩
  unfold JB_endTuple JB_endTuple_b0
  rw [Tuple_isTaken_q, some_bind, hT.2.2.2.2.2.1, hT.2.2.2.2.2.2.1]
  dsimp only
  unfold a_end
  by_cases hD : t_tD t = im
  · rw [if_pos (by rw [b01_0, hD]; rfl), if_pos hD]
    exact fin σ false ts line dl la hA w1.1 kO.rf rfl hu1 hR
  · rw [if_neg (by rw [b01_0, decide_eq_false hD]; decide), if_neg hD]
    obtain ⟨-, -, -, h4, -⟩ := w1.2 t ht
    rcases h4 with q | ⟨s, d, q1, q2, q3, q4, q5⟩
    · exact absurd q.2 hD
    · have hdl := w4 s q1
      have es : (t_tS t).toNatClampNeg = s := by rw [q4, i_n (by omega)]
      have ed : (t_tD t).toNatClampNeg = d := by rw [q5, i_n (by omega)]
      dsimp only
      rw [es, ed, q4, q5]
      rw [if_pos (by rw [i_in (by omega)]; omega), hA.1.1 s q1, if_pos (by rw [blt_eq]; omega)]
      refine wp_bind (JB_abandonDownTo_s (n := n) q1 ⟨q2, by omega⟩ hdl (by omega) hA.2.2.2.1 (hA.1.2.1 s q1) (hA.2.2.2.2.2.1 s q1)) (fun q hq => ?_)
      obtain ⟨x1, x2⟩ := q
      obtain ⟨d1, d2, d3, d4, d5, d6⟩ := hq
      replace d1 : x1 = _ := d1
      subst d1
      dsimp only at d2 d3 d4 d5 d6 ⊢
      have hA1 := cA_dl hA d2 d3 d4 d5
      have hz3 : ¬ (Z4 3 0 ∨ (3 = 16 ∧ 0 = s)) := by unfold Z4; omega
      have hz2 : ¬ (Z4 2 0 ∨ (2 = 16 ∧ 0 = s)) := by unfold Z4; omega
      have hu2 : x2.1 2 1 0 = i u := by rw [(d3 2 0 hz2).1]; exact hu1
      have hP2 : x2.2.2.2 3 0 = σ.2.2.2 3 0 := d3.P3 hz3
      have hnd : ((a_down s d (dl s) ts false).1.map t_num).Nodup := (okTs_down w1).1
      have hRx : Rw (σ.2.2.2 3 0) x2 0 u (a_down s d (dl s) ts false).1 := by
        obtain ⟨u9, v1, v2, v3, v4⟩ := d2
        rw [hu2, i_eq (by omega) (by omega)] at v2
        rw [hP2, ← v2] at v4
        exact v4
      rw [d5 5 (by decide), hA.2.2.2.2.2.2.2.2.1 s q1]
      by_cases hm : s ∈ line
      · rw [if_pos hm, if_pos (show i 1 = 1 from rfl), if_pos hm]
        refine wp_bind (JB_endWait_s (n := n) (v := 3) (by omega) (by omega) (hA1.1.2.1 s q1) hA1.2.2.2.2.1) (fun υ hυ => ?_)
        have hA2 := cA_leave hA1 w2 q1 hυ.1 hυ.2.1 hυ.2.2.1 hυ.2.2.2
        exact fin υ _ _ _ _ _ hA2 hnd (d6.tr (kO.fr hυ.2.1 (fun z => by omega))) (by rw [hυ.2.1.P3 (by omega)]; exact hP2) (by rw [(hυ.2.1 2 0 (by omega)).1]; exact hu2) (hRx.fr hυ.2.1 (fun r _ _ => by omega))
      · have hla : ¬ la s = 1 := by
          rw [l1]
          rcases w7 s q1 with g | g | g <;> rw [g, i_eq (by decide) (by decide)] <;> decide
        rw [if_neg hm, if_neg hla, if_neg hm, List.erase_of_not_mem hm]
        exact fin x2 _ _ _ _ _ hA1 hnd d6 hP2 hu2 hRx
