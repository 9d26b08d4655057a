/-! The class's calls: renew, put, open deals. Ours. -/
theorem JB_leaseEnd_s {n now : Nat} {x : Int32} {σ : J} (h : σ.1 0 5 0 = i now) (hx : a_span x = true) : JB_leaseEnd n x σ = some (a_lease now x, σ) := by
  unfold JB_leaseEnd JB_leaseEnd_b0 JB_leaseEnd_b14 a_lease
  obtain ⟨k, hk, rfl⟩ := span_i hx
  rw [h, i_add, i_n (by omega)]
  by_cases h0 : i k = 0
  · rw [if_pos h0, if_pos h0]; rfl
  · rw [if_neg h0, if_neg h0]
theorem lease_ok {now : Nat} {x : Int32} (hx : a_span x = true) : ∃ e, e ≤ now + 1000 ∧ a_lease now x = i e := by
  obtain ⟨k, hk, rfl⟩ := span_i hx
  unfold a_lease
  rw [i_n (by omega)]
  split
  · exact ⟨0, by omega, rfl⟩
  · exact ⟨now + k, by omega, rfl⟩
theorem okTs_setE {n now lat : Nat} {dl : Nat → Nat} {ts : List Tp} {m e : Int32} (h : okTs n now lat dl ts) (he : ∃ k, k ≤ now + 1000 ∧ e = i k) : okTs n now lat dl (ts.map fun t => if t_num t = m then t_setE t e else t) := by
  refine ⟨?_, fun t ht => ?_⟩
  · rw [List.map_map, List.map_congr_left (g := t_num) (fun t _ => by
      show t_num (if t_num t = m then t_setE t e else t) = t_num t
      split <;> rfl)]
    exact h.1
  · obtain ⟨u, hu, rfl⟩ := List.mem_map.mp ht
    obtain ⟨h1, h2, h3⟩ := h.2 u hu
    split
    · exact ⟨h1, he, h3⟩
    · exact ⟨h1, h2, h3⟩
theorem JB_renew_s {n f : Nat} {x m y : Int32} {a : Sq} {σ : J} (hA : cA n σ a) (hw : wfA n a) (hf : 30 ≤ f) : wp (JB_renew n f x m y σ) (fun q => q.1 = (o_renew n x m y a).1 ∧ cA n q.2 (o_renew n x m y a).2 ∧ wfA n (o_renew n x m y a).2) := by
  obtain ⟨now, lat, ts, line, dl, dr, pt, la, jo, tk, fn, os⟩ := a
  unfold JB_renew JB_renew_b0 JB_renew_b45 o_renew
  rw [JB_readySession_s hA hw, some_bind]
  dsimp only
  cases hfi : a_first n line x with
  | inr e => rw [wp_some]; exact ⟨rfl, hA, hw⟩
  | inl s =>
    have hw' := hw
    obtain ⟨w1, w2, w3, w4, w5, w6, w7, w8, w9, w10, w11, w12, w13⟩ := hw'
    obtain ⟨hs, hxs, -⟩ := first_i w13 hfi
    have hA' := hA
    obtain ⟨g1, g2, g3, g4, g5, g6, g7, g8, g9, g10, g11, g12⟩ := hA'
    dsimp only
    rw [if_pos (by rw [blt_eq]; omega), JB_isSpan_s, some_bind]
    dsimp only
    cases hsp : a_span y with
    | false =>
      rw [show (decide (0 ≤ y) && decide (y ≤ 1000)) = false from hsp, if_pos (show b01 false = 0 from rfl), if_neg (show ¬ false = true by decide), wp_some]
      exact ⟨rfl, hA, hw⟩
    | true =>
      rw [show (decide (0 ≤ y) && decide (y ≤ 1000)) = true from hsp, if_neg (show ¬ b01 true = 0 by decide), if_pos rfl]
      simp only [and1_0, and1_1, if_true]
      rcases Board_lookUp_s (n := n) (f := f) (N := m) g4 hf with ⟨e1, e2⟩ | ⟨z, t, pre, post, hz, e1, e2, e3, e4, e5⟩
      · rw [e1, some_bind, find_no e2]
        dsimp only
        rw [wp_some]
        exact ⟨rfl, hA, hw⟩
      · rw [e1, some_bind]
        have hnd := w1.1
        rw [e2] at hnd
        have hfd : ts.find? (fun t => decide (t_num t = m)) = some t := by rw [e2]; exact find_mid hnd e4
        rw [hfd]
        dsimp only
        rw [if_pos (by rw [blt_eq]; exact hz), e3.sees, some_bind, hxs]
        dsimp only
        cases hse : a_sees (i s) t with
        | false =>
          rw [if_pos (show b01 false = 0 from rfl), if_neg (show ¬ false = true by decide), wp_some]
          exact ⟨rfl, hA, hw⟩
        | true =>
          rw [if_neg (show ¬ b01 true = 0 by decide), if_pos rfl, JB_leaseEnd_s g2 hsp, some_bind]
          dsimp only
          rw [bs_eq, wp_some]
          have hf : fr (fun a b => a = 4 ∧ b = z) σ (q_sI σ 4 2 z (a_lease now y)) := fr4
          refine ⟨rfl, ⟨g1.fr hf (by omega) (fun q _ => Or.inl (by omega)) (fun q _ => (by omega)) (by omega), by rw [(hf 0 0 (by omega)).1]; exact g2, by rw [(hf 2 0 (by omega)).1]; exact g3, ?_, g5.fr hf (by omega) (by omega), fun q hq => by rw [(hf 16 q (by omega)).1]; exact g6 q hq, fun q hq => (g7 q hq).fr hf (by omega) (by omega) (by omega), g8.fr hf (fun a z _ _ _ => (by omega)), fun q hq => by rw [(hf 16 q (by omega)).1]; exact g9 q hq, fun q hq => by rw [(hf 16 q (by omega)).1, (hf 16 q (by omega)).1]; exact g10 q hq, fun q hq => (g11 q hq).fr hf (by omega) (by omega) (by omega) (by omega), g12.fr w10 hf (by omega) (fun a z _ _ _ => (by omega)) (fun z _ => (by omega))⟩, okTs_setE w1 (lease_ok hsp), w2, w3, w4, w5, w6, w7, w8, w9, w10, w11, w12, w13⟩
          rw [show ts.map (fun t => if t_num t = m then t_setE t (a_lease now y) else t) = pre ++ t_setE t (a_lease now y) :: post from by rw [e2]; exact map_mid (g := fun t => t_setE t (a_lease now y)) hnd e4]
          exact (e5 _ hf).2 _ e3.setE
theorem okT_lat {n now lat : Nat} {dl : Nat → Nat} {t : Tp} (h : okT n now lat dl t) : okT n now (lat + 1) dl t := by
  obtain ⟨⟨k, h1, h2, h3⟩, h4⟩ := h
  exact ⟨⟨k, h1, by omega, h3⟩, h4⟩
theorem okTs_add {n now lat s : Nat} {dl : Nat → Nat} {ts : List Tp} {t : Tp} {e : Int32} {xs : List FV} (h : okTs n now lat dl ts) (hl : lat < 1000) (he : ∃ k, k ≤ now + 1000 ∧ e = i k) (hx : okFs xs) (hs : s < n) (hd : dl s ≤ 4) (ht : t = if dl s = 0 then a_new lat e xs else t_setP (a_new lat e xs) (i s) (i (dl s))) : okTs n now (lat + 1) dl (ts ++ [t]) := by
  have hnum : t_num t = i (lat + 1) := by rw [ht]; split <;> rfl
  refine ⟨?_, fun u hu => ?_⟩
  · rw [List.map_append, List.nodup_append]
    refine ⟨h.1, by simp, fun a ha b hb => ?_⟩
    obtain ⟨u, hu, rfl⟩ := List.mem_map.mp ha
    obtain ⟨⟨k, h1, h2, h3⟩, -⟩ := h.2 u hu
    rw [List.mem_singleton.mp (show b ∈ [t_num t] from hb), hnum, h3]
    intro q
    rw [i_eq (by omega) (by omega)] at q
    omega
  · rcases List.mem_append.mp hu with hu | hu
    · exact okT_lat (h.2 u hu)
    · rw [List.mem_singleton.mp hu]
      refine ⟨⟨lat + 1, by omega, Nat.le_refl _, hnum⟩, ?_, ?_, ?_, ?_⟩
      · rw [ht]; split <;> exact he
      · rw [ht]
        split
        · exact Or.inl ⟨rfl, rfl⟩
        · exact Or.inr ⟨s, dl s, hs, by omega, hd, rfl, rfl⟩
      · rw [ht]; split <;> exact Or.inl ⟨rfl, rfl⟩
      · rw [ht]; split <;> exact hx
theorem wfA_put {n s : Nat} {e : Int32} {now lat : Nat} {ts : List Tp} {line : List Nat} {dl : Nat → Nat} {dr : Nat → List FV} {pt : Nat → Nat → List Fm} {la : Nat → Int32} {jo : Nat → Nat} {tk : Nat → Bool} {fn : Nat → Fq} {os : List Od} (hw : wfA n (now, lat, ts, line, dl, dr, pt, la, jo, tk, fn, os)) (hs : s < n) (he : ∃ k, k ≤ now + 1000 ∧ e = i k) (hl : lat < 1000) : wfA n (now, lat + 1, ts ++ [if dl s = 0 then a_new lat e (dr s) else t_setP (a_new lat e (dr s)) (i s) (i (dl s))], line, dl, dr, pt, la, jo, tk, fn, if dl s = 0 then a_report (a_new lat e (dr s)) os else os) := by
  obtain ⟨w1, w2, w3, w4, w5, w6, w7, w8, w9, w10, w11, w12, w13⟩ := hw
  refine ⟨okTs_add w1 hl he (w5 s hs) hs (w4 s hs) rfl, w2, w3, w4, w5, w6, w7, w8, ?_, ?_, by omega, w12, w13⟩
  · split
    · exact okOs_add w9
    · exact w9
  · split
    · rw [a_report_len]; exact w10
    · exact w10
theorem JB_placeDraft_s {n f s : Nat} {e : Int32} {now lat : Nat} {ts : List Tp} {line : List Nat} {dl : Nat → Nat} {dr : Nat → List FV} {pt : Nat → Nat → List Fm} {la : Nat → Int32} {jo : Nat → Nat} {tk : Nat → Bool} {fn : Nat → Fq} {os : List Od} {σ : J} (hA : cA n σ (now, lat, ts, line, dl, dr, pt, la, jo, tk, fn, os)) (hw : wfA n (now, lat, ts, line, dl, dr, pt, la, jo, tk, fn, os)) (hs : s < n) (he : ∃ k, k ≤ now + 1000 ∧ e = i k) (hl : lat < 1000) (h20 : ts.length < 20) (hf : 120 ≤ f) : wp (JB_placeDraft n f s e σ) (fun q => q.1 = i (lat + 1) ∧ cA n q.2 (a_put s e (now, lat, ts, line, dl, dr, pt, la, jo, tk, fn, os)) ∧ wfA n (a_put s e (now, lat, ts, line, dl, dr, pt, la, jo, tk, fn, os))) := by
  have hwp := wfA_put hw hs he hl
  have hw' := hw
  obtain ⟨w1, w2, w3, w4, w5, w6, w7, w8, w9, w10, w11, w12, w13⟩ := hw'
  have hA' := hA
  obtain ⟨g1, g2, g3, g4, g5, g6, g7, g8, g9, g10, g11, g12⟩ := hA'
  have hd4 := w4 s hs
  unfold JB_placeDraft JB_placeDraft_b0 JB_placeDraft_b44
  refine wp_bind (Board_add_s (n := n) (e := e) g4 g3 (g7 s hs) (w5 s hs).1 (by omega) h20 (by omega)) (fun q hq => ?_)
  obtain ⟨z, τ⟩ := q
  obtain ⟨b1, b2, hf, b4, b5, b6⟩ := hq
  dsimp only at b1 b2 hf b4 b5 b6 ⊢
  have hz : ∀ a b, (a ≠ 2 ∧ a ≠ 3) → (a < 4 ∨ 7 < a ∨ 20 ≤ b) → ¬ Za a b := fun a b h1 h2 => by unfold Za; omega
  have hA1 : cA n τ (now, lat + 1, ts ++ [a_new lat e (dr s)], line, dl, dr, pt, la, jo, tk, fn, os) := ⟨g1.fr hf (by unfold Za; omega) (fun q _ => Or.inl (by unfold Za; omega)) (fun q _ => (by unfold Za; omega)) (by unfold Za; omega), by rw [(hf 0 0 (by unfold Za; omega)).1]; exact g2, b4, b5, g5.fr hf (by unfold Za; omega) (by unfold Za; omega), fun q hq => by rw [(hf 16 q (by unfold Za; omega)).1]; exact g6 q hq, fun q hq => (g7 q hq).fr hf (by unfold Za; omega) (by unfold Za; omega) (by unfold Za; omega), g8.fr hf (fun a z _ _ _ => (by unfold Za; omega)), fun q hq => by rw [(hf 16 q (by unfold Za; omega)).1]; exact g9 q hq, fun q hq => by rw [(hf 16 q (by unfold Za; omega)).1, (hf 16 q (by unfold Za; omega)).1]; exact g10 q hq, fun q hq => (g11 q hq).fr hf (by unfold Za; omega) (by unfold Za; omega) (by unfold Za; omega) (by unfold Za; omega), g12.fr w10 hf (by unfold Za; omega) (fun a z _ _ _ => by unfold Za; omega) (fun z _ => by unfold Za; omega)⟩
  rw [if_pos (by rw [blt_eq]; exact b1), hA1.2.2.2.2.2.1 s hs]
  unfold a_put
  dsimp only
  by_cases hd : dl s = 0
  · rw [if_pos (by rw [hd]; decide), if_pos hd]
    rw [if_pos hd, if_pos hd] at hwp
    refine wp_bind (JB_report_s (n := n) (f := f) (t := a_new lat e (dr s)) (w5 s hs).1 w9 w10 hA1.2.2.2.2.2.2.2.2.2.2.2 b2 hA1.1.2.2.2 (by omega)) (fun υ hυ => ?_)
    have hA2 : cA n υ (now, lat + 1, ts ++ [a_new lat e (dr s)], line, dl, dr, pt, la, jo, tk, fn, a_report (a_new lat e (dr s)) os) := cA_ts hA1 hυ.1 (fun a b q => by unfold Zp at q; omega) (b5.fr hυ.1 (by unfold Zp; omega) (by unfold Zp; omega) (fun z _ => by unfold Zp; omega)) hυ.2
    refine wp_bind (JB_serveLine_s hA2 hwp (by omega)) (fun ρ hρ => ?_)
    rw [wp_some]
    refine ⟨?_, hρ.1, hρ.2.1⟩
    rw [(hρ.2.2 z).1, (hυ.1 4 z (by unfold Zp; omega)).1]
    exact b2.2.1
  · rw [if_neg (by rw [l0, i_le (by omega) (by decide)]; omega), if_neg hd, hA1.1.2.1 s hs, Tuple_putInto_q, some_bind, wp_some]
    rw [if_neg hd, if_neg hd] at hwp
    have hf2 : fr (fun a b => a = 4 ∧ b = z) τ (q_sI (q_sI τ 4 3 z (i s)) 4 4 z (i (dl s))) := fr4' fr4
    refine ⟨?_, cA_ts hA1 hf2 (fun a b q => Or.inl ⟨q.1, by rw [q.2]; exact b1⟩) (b6 _ hf2 _ b2.setP) (hA1.2.2.2.2.2.2.2.2.2.2.2.fr w10 hf2 (by omega) (fun a z _ _ _ => by omega) (fun z _ => by omega)), hwp⟩
    rw [sI1, if_neg (by omega), sI1, if_neg (by omega)]
    exact b2.2.1
theorem JB_put_s {n f : Nat} {x y : Int32} {a : Sq} {σ : J} (hA : cA n σ a) (hw : wfA n a) (hb : a.2.1 < 1000) (hf : 120 ≤ f) : wp (JB_put n f x y σ) (fun q => q.1 = (o_put n x y a).1 ∧ cA n q.2 (o_put n x y a).2 ∧ wfA n (o_put n x y a).2) := by
  obtain ⟨now, lat, ts, line, dl, dr, pt, la, jo, tk, fn, os⟩ := a
  replace hb : lat < 1000 := hb
  unfold JB_put JB_put_b0 JB_put_b23 o_put
  rw [JB_readySession_s hA hw, some_bind]
  dsimp only
  cases hfi : a_first n line x with
  | inr e => rw [wp_some]; exact ⟨rfl, hA, hw⟩
  | inl s =>
    have hw' := hw
    obtain ⟨w1, w2, w3, w4, w5, w6, w7, w8, w9, w10, w11, w12, w13⟩ := hw'
    obtain ⟨hs, hxs, -⟩ := first_i w13 hfi
    have hA' := hA
    obtain ⟨g1, g2, g3, g4, g5, g6, g7, g8, g9, g10, g11, g12⟩ := hA'
    have hdl := (w5 s hs).1
    dsimp only
    rw [if_pos (by rw [blt_eq]; omega), (g7 s hs).1]
    by_cases hd : dr s = []
    · rw [hd, if_pos (show i ([] : List FV).length = 0 from rfl), if_neg (fun q => q.1 rfl), wp_some]
      exact ⟨rfl, hA, hw⟩
    · have hd0 : (dr s).length ≠ 0 := fun q => hd (List.length_eq_zero_iff.mp q)
      rw [if_neg (by rw [l0, i_eq (by omega) (by decide)]; exact hd0), JB_isSpan_s, some_bind]
      dsimp only
      cases hsp : a_span y with
      | false =>
        rw [show (decide (0 ≤ y) && decide (y ≤ 1000)) = false from hsp, if_pos (show b01 false = 0 from rfl), if_neg (fun q => by cases q.2), wp_some]
        exact ⟨rfl, hA, hw⟩
      | true =>
        rw [show (decide (0 ≤ y) && decide (y ≤ 1000)) = true from hsp, if_neg (show ¬ b01 true = 0 by decide), if_pos ⟨hd, rfl⟩, Board_isFull_s g4 (by omega), some_bind]
        dsimp only
        by_cases h20 : ts.length < 20
        · rw [decide_eq_false (show ¬ 20 ≤ ts.length by omega), if_pos (show b01 false = 0 from rfl), if_pos h20, JB_leaseEnd_s g2 hsp, some_bind]
          refine wp_bind (JB_placeDraft_s hA hw hs (lease_ok hsp) hb h20 hf) (fun q hq => ?_)
          rw [wp_some, hq.1]
          exact ⟨rfl, hq.2⟩
        · rw [decide_eq_true (show 20 ≤ ts.length by omega), if_neg (show ¬ b01 true = 0 by decide), if_neg h20, wp_some]
          exact ⟨rfl, hA, hw⟩
