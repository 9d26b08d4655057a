/-! The reference adds a tuple. Ours. -/
theorem M_add_cp {n s j N : Nat} {xs : List FV} {Q : Int32 × J → Prop} (hs : s < 4) (hj : j < 20) (hx4 : xs.length ≤ 4) :
    ∀ (m q f : Nat) (σ : J), q + m = xs.length → m + 18300 ≤ f → FR (σ.2.1 35 0 s) (fun q => σ.2.1 36 0 (4 * s + q)) (fun q => σ.2.2.1 37 0 (4 * s + q)) xs → (∀ (τ : J) (f1 : Nat), 18300 ≤ f1 + 1 → mf (fun k => 32 ≤ k ∧ k ≤ 33) (fun _ => False) σ τ → (∀ y, (y < 4 * j + q ∨ 4 * j + 4 ≤ y) → τ.2.1 32 0 y = σ.2.1 32 0 y ∧ τ.2.2.1 33 0 y = σ.2.2.1 33 0 y) → (∀ k x, q ≤ k → xs[k]? = some x → τ.2.1 32 0 (4 * j + k) = x.1 ∧ τ.2.2.1 33 0 (4 * j + k) = x.2) → wp (if (τ.2.1 34 0 s) = 0 then (M_outside n f1 (i j) τ).bind fun q9 => (M_serve n f1 q9).bind fun q10 => M_add_b179 n f1 (i N) q10 else M_add_b179 n f1 (i N) τ) Q) → wp (M_add_L100 n f (i s) (i j) (i N) (i q) σ) Q := by
  intro m
  induction m with
  | zero =>
    intro q f σ hq hf hF kk
    obtain ⟨f, rfl⟩ : ∃ g, f = g + 1 := ⟨f - 1, by omega⟩
    have his : q_in (i s) 4 = true := by rw [i_in (by omega)]; exact hs
    show wp (M_add_b100 n (M_add_L100 n f) f (i s) (i j) (i N) (i q) σ) _
    unfold M_add_b100
    rw [if_pos his, if_pos his, i_n (by omega), hF.1, if_pos (by rw [i_le (by omega) (by omega)]; omega)]
    refine kk σ f (by omega) mf.rf (fun _ _ => ⟨rfl, rfl⟩) (fun k x h1 h2 => ?_)
    have := (List.getElem?_eq_some_iff.mp h2).1
    omega
  | succ m ih =>
    intro q f σ hq hf hF kk
    obtain ⟨f, rfl⟩ : ∃ g, f = g + 1 := ⟨f - 1, by omega⟩
    have his : q_in (i s) 4 = true := by rw [i_in (by omega)]; exact hs
    have h16 : q_in (i (4 * s + q)) 16 = true := by rw [i_in (by omega)]; omega
    have h80 : q_in (i (4 * j + q)) 80 = true := by rw [i_in (by omega)]; omega
    have hxq : xs[q]? = some xs[q] := List.getElem?_eq_getElem (by omega)
    obtain ⟨f1, f2⟩ := hF.2 q _ hxq
    show wp (M_add_b100 n (M_add_L100 n f) f (i s) (i j) (i N) (i q) σ) _
    unfold M_add_b100
    rw [if_pos his, i_n (by omega), hF.1, if_neg (by rw [i_le (by omega) (by omega)]; omega), l4, i_mul, i_mul, i_add, i_add]
    simp only [h16, h80, if_true, bs_eq]
    rw [i_n (by omega), i_n (by omega), l1, i_add]
    show wp (M_add_L100 n f (i s) (i j) (i N) (i (q + 1)) (q_sL (q_sA σ 32 0 (upd (σ.2.1 32 0) (4 * j + q) (σ.2.1 36 0 (4 * s + q)))) 33 0 (vp_updL (σ.2.2.1 33 0) (4 * j + q) (σ.2.2.1 37 0 (4 * s + q))))) Q
    rw [show σ.2.1 36 0 (4 * s + q) = xs[q].1 from f1, show σ.2.2.1 37 0 (4 * s + q) = xs[q].2 from f2]
    have hfr : mf (fun k => 32 ≤ k ∧ k ≤ 33) (fun _ => False) σ (q_sL (q_sA σ 32 0 (upd (σ.2.1 32 0) (4 * j + q) xs[q].1)) 33 0 (vp_updL (σ.2.2.1 33 0) (4 * j + q) xs[q].2)) := (mf.rf.sA ⟨by decide, by decide⟩).sL ⟨by decide, by decide⟩
    refine ih (q + 1) f _ (by omega) (by omega) hF (fun τ f1 hf1 k1 k2 k3 => kk τ f1 hf1 (hfr.tr k1) (fun y hy => ?_) (fun k x h1 h2 => ?_))
    · obtain ⟨a1, a2⟩ := k2 y (by omega)
      rw [a1, a2]
      show upd (σ.2.1 32 0) (4 * j + q) xs[q].1 y = _ ∧ vp_updL (σ.2.2.1 33 0) (4 * j + q) xs[q].2 y = _
      unfold upd vp_updL
      rw [if_neg (by omega), if_neg (by omega)]
      exact ⟨rfl, rfl⟩
    · by_cases e : k = q
      · subst e
        obtain ⟨a1, a2⟩ := k2 (4 * j + k) (by omega)
        rw [hxq] at h2
        cases h2
        rw [a1, a2]
        show upd (σ.2.1 32 0) (4 * j + k) _ (4 * j + k) = _ ∧ vp_updL (σ.2.2.1 33 0) (4 * j + k) _ (4 * j + k) = _
        unfold upd vp_updL
        rw [if_pos rfl, if_pos rfl]
        exact ⟨rfl, rfl⟩
      · exact k3 k x (by omega) h2
theorem M_add_s {n s f : Nat} {y : Int32} {now lat : Nat} {ts : List Tp} {line : List Nat} {dl : Nat → Nat} {dr : Nat → List FV} {pt : Nat → Nat → List Fm} {la : Nat → Int32} {jo : Nat → Nat} {tk : Nat → Bool} {fn : Nat → Fq} {os : List Od} {σ : J} (hA : mA n σ (now, lat, ts, line, dl, dr, pt, la, jo, tk, fn, os)) (hw : wfA n (now, lat, ts, line, dl, dr, pt, la, jo, tk, fn, os)) (hs : s < n) (hy : a_span y = true) (hl : lat < 1000) (h20 : ts.length < 20) (hf : 18500 ≤ f) : wp (M_add n f (i s) y σ) (fun q => q.1 = i (lat + 1) ∧ mA n q.2 (a_put s (a_lease now y) (now, lat, ts, line, dl, dr, pt, la, jo, tk, fn, os)) ∧ q.2.1 24 0 0 = σ.1 24 0 0) := by
  have hwp := wfA_put hw hs (lease_ok (now := now) hy) hl
  have hA' := hA
  obtain ⟨h1, h2, h3, h4, h5, h6, h7, h8, h9, h10, h11, h12, h13⟩ := hA'
  have hw' := hw
  obtain ⟨w1, w2, w3, w4, w5, w6, w7, w8, w9, w10, w11, w12, w13⟩ := hw'
  have hd4 := w4 s hs
  have his : q_in (i s) 4 = true := by rw [i_in (by omega)]; omega
  have hit : q_in (i ts.length) 20 = true := by rw [i_in (by omega)]; exact h20
  have hF := h7 s hs
  unfold M_add M_add_b0 M_add_b70
  simp only [bs_eq]
  rw [h4.1]
  simp only [hit, his, if_true]
  rw [i_n (by omega), i_n (by omega)]
  -- the end of the lease
  have key : ∀ e : Int32, e = a_lease now y → ∀ (ρ : J), ρ = q_sA (q_sA (q_sA (q_sA (q_sA (q_sA (q_sI (q_sI σ 24 1 0 (i (ts.length + 1))) 24 2 0 (i (lat + 1))) 25 0 (upd (σ.2.1 25 0) ts.length (i (lat + 1)))) 26 0 (upd (σ.2.1 26 0) ts.length (i (dr s).length))) 27 0 (upd (σ.2.1 27 0) ts.length e)) 28 0 (upd (σ.2.1 28 0) ts.length (i s))) 29 0 (upd (σ.2.1 29 0) ts.length (i (dl s)))) 30 0 (upd (σ.2.1 30 0) ts.length im) → wp (M_add_L100 n f (i s) (i ts.length) (i (lat + 1)) (i 0) ρ) (fun q => q.1 = i (lat + 1) ∧ mA n q.2 (a_put s (a_lease now y) (now, lat, ts, line, dl, dr, pt, la, jo, tk, fn, os)) ∧ q.2.1 24 0 0 = σ.1 24 0 0) := by
    intro e he ρ hρ
    have hfρ : mf (fun k => 25 ≤ k ∧ k ≤ 30) (fun f => f = 1 ∨ f = 2) σ ρ := by
      rw [hρ]
      exact (((((((mf.rf.sI (Or.inl rfl)).sI (Or.inr rfl)).sA (by omega)).sA (by omega)).sA (by omega)).sA (by omega)).sA (by omega)).sA (by omega)
    refine M_add_cp (n := n) (xs := dr s) (by omega) h20 (w5 s hs).1 (dr s).length 0 f ρ (by omega) (by have := (w5 s hs).1; omega) (by rw [(hfρ.1 35 (by omega)).1, (hfρ.1 36 (by omega)).1, (hfρ.1 37 (by omega)).2]; exact hF) (fun τ f1 hf1 k1 k2 k3 => ?_)
    have hT0 : mT τ ts.length (i (lat + 1), e, i s, i (dl s), im, im, dr s) := by
      refine ⟨?_, ?_, ?_, fun _ => ?_, ?_, fun q => absurd rfl q, ?_, fun k x hx => k3 k x (Nat.zero_le _) hx⟩
      · rw [(k1.1 25 (by omega)).1, hρ]; exact upd_at
      · rw [(k1.1 27 (by omega)).1, hρ]; exact upd_at
      · rw [(k1.1 28 (by omega)).1, hρ]; exact upd_at
      · rw [(k1.1 29 (by omega)).1, hρ]; exact upd_at
      · rw [(k1.1 30 (by omega)).1, hρ]; exact upd_at
      · rw [(k1.1 26 (by omega)).1, hρ]; exact upd_at
    have hTo : ∀ j t, ts[j]? = some t → mT τ j t := by
      intro j t hj
      have hjl := (List.getElem?_eq_some_iff.mp hj).1
      refine (h4.2.2 j t hj).copy (fun x h1 h2 => ?_) (fun q hq => ?_) (w1.2 t (List.mem_of_getElem? hj)).2.2.2.2.1
      · rw [(k1.1 x (by omega)).1, hρ]
        have hxx : x = 25 ∨ x = 26 ∨ x = 27 ∨ x = 28 ∨ x = 29 ∨ x = 30 ∨ x = 31 := by omega
        rcases hxx with rfl | rfl | rfl | rfl | rfl | rfl | rfl <;> first | exact upd_ne (by omega) | rfl
      · obtain ⟨a1, a2⟩ := k2 (4 * j + q) (by omega)
        rw [a1, a2, (hfρ.1 32 (by omega)).1, (hfρ.1 33 (by omega)).2]
        exact ⟨rfl, rfl⟩
    have hf : mf (fun k => 25 ≤ k ∧ k ≤ 33) (fun f => f = 1 ∨ f = 2) σ τ := (hfρ.up (fun k q => by omega) (fun f q => q)).tr (k1.up (fun k q => by omega) (fun f q => q.elim))
    have hB : mB τ (ts ++ [(i (lat + 1), e, i s, i (dl s), im, im, dr s)]) := by
      have hlen : (ts ++ [(i (lat + 1), e, i s, i (dl s), im, im, dr s)]).length = ts.length + 1 := by simp
      refine ⟨?_, by omega, fun j t hj => ?_⟩
      · rw [hlen, k1.2 1 (fun q => q), hρ]; rfl
      · by_cases ej : j = ts.length
        · subst ej
          rw [List.getElem?_append_right (Nat.le_refl _), Nat.sub_self] at hj
          cases hj
          exact hT0
        · have hjl := (List.getElem?_eq_some_iff.mp hj).1
          rw [List.getElem?_append_left (by omega)] at hj
          exact hTo j t hj
    have hA1 : mA n τ (now, lat + 1, ts ++ [(i (lat + 1), e, i s, i (dl s), im, im, dr s)], line, dl, dr, pt, la, jo, tk, fn, os) := ⟨by rw [hf.2 13 (by omega)]; exact h1, by rw [hf.2 3 (by omega)]; exact h2, by rw [k1.2 2 (fun q => q), hρ]; rfl, hB, h5.fr hf (by omega) (by omega), fun q hq => by rw [(hf.1 34 (by omega)).1]; exact h6 q hq, fun q hq => by rw [(hf.1 35 (by omega)).1, (hf.1 36 (by omega)).1, (hf.1 37 (by omega)).2]; exact h7 q hq, fun q p hq hp => (h8 q p hq hp).fr hf (fun k _ _ => (by omega)), fun q hq => by rw [(hf.1 45 (by omega)).1]; exact h9 q hq, fun q hq => by rw [(hf.1 43 (by omega)).1, (hf.1 44 (by omega)).1]; exact h10 q hq, fun q hq => (h11 q hq).fr hf (by omega) (by omega) (by omega), h12.fr hf (fun k _ _ => (by omega)) (by omega) (by omega) (by omega) (by omega), fun v hv => by rw [(hf.1 52 (by omega)).1]; exact h13 v hv⟩
    have hcd : τ.1 24 0 0 = σ.1 24 0 0 := hf.2 0 (by omega)
    rw [hA1.2.2.2.2.2.1 s hs]
    unfold M_add_b179 a_put
    dsimp only
    by_cases hd : dl s = 0
    · rw [if_pos (show i (dl s) = 0 from by rw [hd]; rfl), if_pos hd]
      rw [if_pos hd, if_pos hd] at hwp
      have hB1 := hA1.2.2.2.1
      refine wp_bind (M_outside_s (n := n) (f := f1) (j := ts.length) (t := (i (lat + 1), e, i s, i (dl s), im, im, dr s)) (by rw [List.getElem?_append_right (Nat.le_refl _), Nat.sub_self]; rfl) (w5 s hs) w9 w10 hA1.2.2.2.2.2.2.2.2.2.2.2.1 hB1 hA1.2.2.2.2.2.2.2.2.2.2.2.2 (by omega)) (fun υ hυ => ?_)
      obtain ⟨o1, o2, o3, o4⟩ := hυ
      have e1 : (ts ++ [(i (lat + 1), e, i s, i (dl s), im, im, dr s)]).set ts.length (t_setP (i (lat + 1), e, i s, i (dl s), im, im, dr s) im im) = ts ++ [a_new lat (a_lease now y) (dr s)] := by
        rw [set_mid (post := []), ← he]; rfl
      rw [e1] at o2
      have e2 : t_setP (i (lat + 1), e, i s, i (dl s), im, im, dr s) im im = a_new lat (a_lease now y) (dr s) := by rw [← he]; rfl
      rw [e2] at o3
      have hA2 : mA n υ (now, lat + 1, ts ++ [a_new lat (a_lease now y) (dr s)], line, dl, dr, pt, la, jo, tk, fn, a_report (a_new lat (a_lease now y) (dr s)) os) := by
        have hf := o1
        obtain ⟨h1, h2, h3, h4, h5, h6, h7, h8, h9, h10, h11, h12, h13⟩ := hA1
        exact ⟨by rw [hf.2 13 (fun q => q)]; exact h1, by rw [hf.2 3 (fun q => q)]; exact h2, by rw [hf.2 2 (fun q => q)]; exact h3, o2, h5.fr hf (by unfold Ko; omega) (fun q => q), fun q hq => by rw [(hf.1 34 (by unfold Ko; omega)).1]; exact h6 q hq, fun q hq => by rw [(hf.1 35 (by unfold Ko; omega)).1, (hf.1 36 (by unfold Ko; omega)).1, (hf.1 37 (by unfold Ko; omega)).2]; exact h7 q hq, fun q p hq hp => (h8 q p hq hp).fr hf (fun k _ _ => (by unfold Ko; omega)), fun q hq => by rw [(hf.1 45 (by unfold Ko; omega)).1]; exact h9 q hq, fun q hq => by rw [(hf.1 43 (by unfold Ko; omega)).1, (hf.1 44 (by unfold Ko; omega)).1]; exact h10 q hq, fun q hq => (h11 q hq).fr hf (by unfold Ko; omega) (by unfold Ko; omega) (by unfold Ko; omega), o3, o4⟩
      refine wp_bind (M_serve_s hA2 hwp (by omega)) (fun ω hω => ?_)
      rw [wp_some]
      exact ⟨rfl, hω.1, (hω.2.trans (o1.2 0 (fun q => q))).trans hcd⟩
    · rw [if_neg (by rw [l0, i_eq (by omega) (by decide)]; exact hd), if_neg hd, wp_some]
      refine ⟨rfl, ?_, hcd⟩
      rw [← he]
      exact hA1
  have e2 : (q_sI σ 24 1 0 (i ts.length + 1)).1 24 2 0 + 1 = i (lat + 1) := by rw [sI1, if_neg (by omega), h3, l1, i_add]
  have e3 : (q_sI (q_sI σ 24 1 0 (i ts.length + 1)) 24 2 0 ((q_sI σ 24 1 0 (i ts.length + 1)).1 24 2 0 + 1)).1 24 2 0 = i (lat + 1) := by rw [sI1, if_pos ⟨rfl, rfl, rfl⟩, e2]
  rw [e3, e2, l1, i_add]
  obtain ⟨ky, hky, hyk⟩ := span_i hy
  by_cases h0 : y = 0
  · rw [if_pos h0]
    refine key 0 (by unfold a_lease; rw [if_pos h0]; rfl) _ ?_
    show q_sA (q_sA (q_sA (q_sA (q_sA (q_sA _ 25 0 _) 26 0 (upd (σ.2.1 26 0) ts.length (σ.2.1 35 0 s))) 27 0 _) 28 0 _) 29 0 (upd (σ.2.1 29 0) ts.length (σ.2.1 34 0 s))) 30 0 _ = _
    rw [hF.1, h6 s hs]
    rfl
  · rw [if_neg h0]
    refine key (i now + y) (by unfold a_lease; rw [if_neg h0, hyk, i_n (by omega), i_add]) _ ?_
    show q_sA (q_sA (q_sA (q_sA (q_sA (q_sA _ 25 0 _) 26 0 (upd (σ.2.1 26 0) ts.length (σ.2.1 35 0 s))) 27 0 (upd (σ.2.1 27 0) ts.length (σ.1 24 3 0 + y))) 28 0 _) 29 0 (upd (σ.2.1 29 0) ts.length (σ.2.1 34 0 s))) 30 0 _ = _
    rw [hF.1, h6 s hs, h2]
    rfl
