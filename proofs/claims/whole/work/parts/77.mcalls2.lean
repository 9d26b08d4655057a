/-! The reference's calls: now, open, stop, session, found, seen, about, forget, renew, put. Ours. -/
def c3 (e : Nat) : Nat := if e = 4 then 3 else e
def c1 (_ : Nat) : Nat := 1
theorem M_now_s {n : Nat} {a : Sq} {σ : J} (hA : mA n σ a) : wp (M_now n σ) (fun q => q.1 = i a.1 ∧ mA n q.2 a) := by
  have h := hA
  obtain ⟨now, lat, ts, line, dl, dr, pt, la, jo, tk, fn, os⟩ := a
  unfold M_now M_now_b0
  exact wp_s ⟨hA.2.1, mA_code h⟩
theorem mA_34 {n s d : Nat} {now lat : Nat} {ts : List Tp} {line : List Nat} {dl : Nat → Nat} {dr : Nat → List FV} {pt : Nat → Nat → List Fm} {la : Nat → Int32} {jo : Nat → Nat} {tk : Nat → Bool} {fn : Nat → Fq} {os : List Od} {σ τ : J} (h : mA n σ (now, lat, ts, line, dl, dr, pt, la, jo, tk, fn, os)) (hf : mf (fun k => k = 34) (fun _ => False) σ τ) (h34 : ∀ y, τ.2.1 34 0 y = if y = s then i d else σ.2.1 34 0 y) : mA n τ (now, lat, ts, line, va_up dl s d, dr, pt, la, jo, tk, fn, os) := by
  obtain ⟨h1, h2, h3, h4, h5, h6, h7, h8, h9, h10, h11, h12, h13⟩ := h
  exact ⟨by rw [hf.2 13 (fun q => q)]; exact h1, by rw [hf.2 3 (fun q => q)]; exact h2, by rw [hf.2 2 (fun q => q)]; exact h3, h4.fr hf (fun k _ _ => by omega) (fun q => q), h5.fr hf (by omega) (fun q => q), fun q hq => by
    rw [h34 q]
    unfold va_up
    by_cases e : q = s
    · rw [if_pos e, if_pos e]
    · rw [if_neg e, if_neg e]; exact h6 q hq, fun q hq => by rw [(hf.1 35 (by omega)).1, (hf.1 36 (by omega)).1, (hf.1 37 (by omega)).2]; exact h7 q hq, fun q p hq hp => (h8 q p hq hp).fr hf (fun k _ _ => (by omega)), fun q hq => by rw [(hf.1 45 (by omega)).1]; exact h9 q hq, fun q hq => by rw [(hf.1 43 (by omega)).1, (hf.1 44 (by omega)).1]; exact h10 q hq, fun q hq => (h11 q hq).fr hf (by omega) (by omega) (by omega), h12.fr hf (fun k _ _ => by omega) (by omega) (by omega) (by omega) (fun q => q), fun v hv => by rw [(hf.1 52 (by omega)).1]; exact h13 v hv⟩
theorem M_open_s {n f : Nat} {x : Int32} {a : Sq} {σ : J} (hA : mA n σ a) (hw : wfA n a) (hf : 10 ≤ f) : wp (M_open n f x σ) (fun q => mR c3 (o_open n x a).1 q ∧ mA n q.2 (o_open n x a).2) := by
  obtain ⟨now, lat, ts, line, dl, dr, pt, la, jo, tk, fn, os⟩ := a
  have hw' := hw
  obtain ⟨w1, w2, w3, w4, w5, w6, w7, w8, w9, w10, w11, w12, w13⟩ := hw'
  unfold M_open M_open_b0 M_open_b32 M_open_b36 o_open
  simp only [bs_eq]
  refine wp_e (M_first_a (r := true) hA hw hf) ?_
  cases hfi : a_first n line x with
  | inr e =>
    have he := e12 (first_e hfi)
    have hce : c3 e = e := by rcases first_e hfi with q | q <;> rw [q] <;> rfl
    refine wp_ite (fun h => absurd h (show ¬ i e = 0 from i_ne0 he)) (fun _ => ?_)
    refine wp_ite (fun h => absurd h (show ¬ i e ≤ 0 from i_nle0 he)) (fun _ => ?_)
    exact wp_s ⟨(show i e = i (c3 e) by rw [hce]), mA_code (mA_code hA)⟩
  | inl s =>
    obtain ⟨hs, hxs, -⟩ := first_i w13 hfi
    have hd4 := w4 s hs
    have his : q_in x 4 = true := by rw [hxs, i_in (by omega)]; omega
    have hxn : x.toNatClampNeg = s := by rw [hxs, i_n (by omega)]
    have h34 : σ.2.1 34 0 x.toNatClampNeg = i (dl s) := by rw [hxn]; exact hA.2.2.2.2.2.1 s hs
    dsimp only
    refine wp_ite (fun _ => ?_) (fun h => absurd (show i 0 = 0 from rfl) h)
    refine wp_ite (fun _ => ?_) (fun h => absurd (his) h)
    by_cases h4 : dl s < 4
    · rw [if_pos h4]
      refine wp_ite (fun h => absurd h (show ¬ σ.2.1 34 0 x.toNatClampNeg = 4 from by rw [h34, l4, i_eq (by omega) (by decide)]; omega)) (fun _ => ?_)
      refine wp_ite (fun _ => ?_) (fun h => absurd (show i 0 ≤ 0 by decide) h)
      refine wp_ite (fun _ => ?_) (fun h => absurd (his) h)
      refine wp_ite (fun _ => ?_) (fun h => absurd (his) h)
      refine wp_ite (fun _ => ?_) (fun h => absurd (his) h)
      show wp (some (upd (σ.2.1 34 0) x.toNatClampNeg (σ.2.1 34 0 x.toNatClampNeg + 1) x.toNatClampNeg, q_sA (q_sI (q_sI σ 24 0 0 (i 0)) 24 0 0 (i 0)) 34 0 (upd (σ.2.1 34 0) x.toNatClampNeg (σ.2.1 34 0 x.toNatClampNeg + 1)))) _
      rw [h34, hxn, l1, i_add]
      exact wp_s ⟨⟨upd_at, rfl⟩, mA_34 (mA_code (v := i 0) (mA_code (v := i 0) hA)) (mf.rf.sA rfl) (fun y => rfl)⟩
    · rw [if_neg h4]
      refine wp_ite (fun _ => ?_) (fun h => absurd (show σ.2.1 34 0 x.toNatClampNeg = 4 from by rw [h34, l4, i_eq (by omega) (by decide)]; omega) h)
      refine wp_ite (fun h => absurd h (show ¬ i 3 ≤ 0 by decide)) (fun _ => ?_)
      exact wp_s ⟨rfl, mA_code (mA_code hA)⟩
theorem mA_leave {n s : Nat} {v : Int32} {now lat : Nat} {ts : List Tp} {line : List Nat} {dl : Nat → Nat} {dr : Nat → List FV} {pt : Nat → Nat → List Fm} {la : Nat → Int32} {jo : Nat → Nat} {tk : Nat → Bool} {fn : Nat → Fq} {os : List Od} {σ τ : J} (h : mA n σ (now, lat, ts, line, dl, dr, pt, la, jo, tk, fn, os)) (hnd : line.Nodup) (hf : mf (fun k => k = 42 ∨ k = 45) (fun f => f = 22) σ τ) (hL : mL τ (line.erase s)) (h45 : ∀ q, q < n → τ.2.1 45 0 q = va_up la s v q) : mA n τ (now, lat, ts, line.erase s, dl, dr, pt, va_up la s v, jo, tk, fn, os) := by
  obtain ⟨h1, h2, h3, h4, h5, h6, h7, h8, h9, h10, h11, h12, h13⟩ := h
  exact ⟨by rw [hf.2 13 (by omega)]; exact h1, by rw [hf.2 3 (by omega)]; exact h2, by rw [hf.2 2 (by omega)]; exact h3, h4.fr hf (fun k _ _ => (by omega)) (by omega), hL, fun q hq => by rw [(hf.1 34 (by omega)).1]; exact h6 q hq, fun q hq => by rw [(hf.1 35 (by omega)).1, (hf.1 36 (by omega)).1, (hf.1 37 (by omega)).2]; exact h7 q hq, fun q p hq hp => (h8 q p hq hp).fr hf (fun k _ _ => (by omega)), h45, fun q hq => by
    have hqs : q ≠ s := fun e => by rw [e] at hq; exact hnd.not_mem_erase hq
    rw [(hf.1 43 (by omega)).1, (hf.1 44 (by omega)).1]
    unfold va_up
    rw [if_neg hqs]
    exact h10 q (List.mem_of_mem_erase hq), fun q hq => (h11 q hq).fr hf (by omega) (by omega) (by omega), h12.fr hf (fun k _ _ => (by omega)) (by omega) (by omega) (by omega) (by omega), fun v hv => by rw [(hf.1 52 (by omega)).1]; exact h13 v hv⟩
theorem M_stop_s {n f : Nat} {x : Int32} {a : Sq} {σ : J} (hA : mA n σ a) (hw : wfA n a) (hf : 30 ≤ f) : wp (M_stop n f x σ) (fun q => mR id (o_stop n x a).1 q ∧ mA n q.2 (o_stop n x a).2) := by
  obtain ⟨now, lat, ts, line, dl, dr, pt, la, jo, tk, fn, os⟩ := a
  have hw' := hw
  obtain ⟨w1, w2, w3, w4, w5, w6, w7, w8, w9, w10, w11, w12, w13⟩ := hw'
  have hp4 := php n line w2 w3
  unfold M_stop M_stop_b0 M_stop_b14 M_stop_b32 o_stop
  simp only [bs_eq, and1_0, and1_1, if_true]
  refine wp_e (M_isSession_s hA.1) ?_
  cases h : a_sess n x with
  | false =>
    rw [if_neg (show ¬ false = true by decide)]
    refine wp_ite (fun _ => ?_) (fun h => absurd (show b01 false = 0 from rfl) h)
    refine wp_ite (fun _ => ?_) (fun h => absurd (show 0 < i 1 by decide) h)
    exact wp_s ⟨rfl, mA_code hA⟩
  | true =>
    obtain ⟨s, hs, e1, e2⟩ := sess_i w13 h
    rw [if_pos rfl, e2]
    refine wp_ite (fun h => absurd h (show ¬ b01 true = 0 by decide)) (fun _ => ?_)
    refine wp_ite (fun h => absurd h (show ¬ 0 < i 0 by decide)) (fun _ => ?_)
    have hA1 := mA_code (v := 0) hA
    have h44 : ∀ q ∈ line, q < 4 := fun q hq => by have := w3 q hq; omega
    refine wp_e (M_standing_s hA1.2.2.2.2.1 (by omega) h44 w2 (by omega)) ?_
    dsimp only
    rw [e1]
    by_cases hm : s ∈ line
    · obtain ⟨k, k1, k2, k3, -⟩ := a_place_in h44 (show s < 4 by omega) hm
      rw [if_pos hm, k1]
      refine wp_ite (fun _ => ?_) (fun h => absurd (show 0 ≤ i k by rw [l0, i_le (by decide) (by omega)]; omega) h)
      refine wp_bind (M_leave_s (n := n) hA1.2.2.2.2.1 (by omega) h44 w2 hm (by omega)) (fun τ hτ => ?_)
      have hla := (hA.2.2.2.2.2.2.2.2.2.1 s hm).1
      refine wp_s ⟨⟨rfl, (hτ.1.2 0 (by omega)).trans rfl⟩, mA_leave hA1 w2 (hτ.1.up (fun k q => Or.inl q) (fun f q => q)) hτ.2 (fun q hq => ?_)⟩
      rw [(hτ.1.1 45 (by omega)).1]
      unfold va_up
      by_cases e : q = s
      · rw [if_pos e, e, ← hla]; exact hA1.2.2.2.2.2.2.2.2.1 s hs
      · rw [if_neg e]; exact hA1.2.2.2.2.2.2.2.2.1 q hq
    · rw [if_neg hm, a_place_out h44 (show s < 4 by omega) hm]
      refine wp_ite (fun h => absurd h (show ¬ 0 ≤ im by decide)) (fun _ => ?_)
      exact wp_s ⟨⟨rfl, rfl⟩, hA1⟩
theorem M_session_s {n f : Nat} {x w : Int32} {a : Sq} {σ : J} (hA : mA n σ a) (hw : wfA n a) (hf : 30 ≤ f) : wp (M_session n f x w σ) (fun q => mR id (o_session n x w a) q ∧ mA n q.2 a) := by
  have hA0 := hA
  obtain ⟨now, lat, ts, line, dl, dr, pt, la, jo, tk, fn, os⟩ := a
  have hw' := hw
  obtain ⟨w1, w2, w3, w4, w5, w6, w7, w8, w9, w10, w11, w12, w13⟩ := hw'
  have hp4 := php n line w2 w3
  unfold M_session M_session_b0 M_session_b14 M_session_b86 M_session_b101 o_session
  simp only [bs_eq, lo]
  refine wp_e (M_isSession_s hA.1) ?_
  cases h : a_sess n x with
  | false =>
    rw [if_neg (show ¬ false = true by decide)]
    refine wp_ite (fun _ => ?_) (fun h => absurd (show b01 false = 0 from rfl) h)
    refine wp_ite (fun h => absurd h (show ¬ i 1 ≤ 0 by decide)) (fun _ => ?_)
    exact wp_s ⟨rfl, mA_code hA⟩
  | true =>
    obtain ⟨s, hs, e1, e2⟩ := sess_i w13 h
    rw [if_pos rfl, e2]
    refine wp_ite (fun h => absurd h (show ¬ b01 true = 0 by decide)) (fun _ => ?_)
    refine wp_ite (fun _ => ?_) (fun h => absurd (show i 0 ≤ 0 by decide) h)
    have hA1 := mA_code (v := 0) hA
    have hA2 := hA1
    obtain ⟨h1, h2, h3, h4, h5, h6, h7, h8, h9, h10, h11, h12, h13⟩ := hA1
    have h44 : ∀ q ∈ line, q < 4 := fun q hq => by have := w3 q hq; omega
    have his : q_in x 4 = true := by rw [e1, i_in (by omega)]; omega
    have hst := M_standing_s (n := n) (f := f) (x := x) h5 (by omega) h44 w2 (by omega)
    have hp : ∀ m, m < 3 → wp (if q_in (3 * x + i (m + 3) - 3) 18 = true then some (σ.2.1 38 0 (3 * x + i (m + 3) - 3).toNatClampNeg, q_sI σ 24 0 0 0) else none) (fun q => mR id (.inl (i (pt s m).length)) q ∧ mA n q.2 (now, lat, ts, line, dl, dr, pt, la, jo, tk, fn, os)) := by
      intro m hm
      have he : 3 * x + i (m + 3) - 3 = i (3 * s + m) := by rw [e1, l3, i_mul, i_add, i_sub (by omega), show 3 * s + (m + 3) - 3 = 3 * s + m by omega]
      refine wp_ite (fun _ => ?_) (fun h => absurd (show q_in (3 * x + i (m + 3) - 3) 18 = true by rw [he, i_in (by omega)]; omega) h)
      rw [he, i_n (by omega)]
      exact wp_s ⟨⟨(h8 s m hs hm).1, rfl⟩, hA2⟩
    by_cases h0 : w = i 0
    · subst h0
      refine wp_ite (fun _ => ?_) (fun h => absurd (rfl) h)
      refine wp_e hst ?_
      rw [if_pos rfl]
      dsimp only
      by_cases hm : s ∈ line
      · obtain ⟨k, k1, k2, k3, -⟩ := a_place_in h44 (show s < 4 by omega) hm
        rw [if_pos hm, e1, k1]
        refine wp_ite (fun h => absurd h (show ¬ i k < 0 by rw [l0, i_lt (by omega) (by decide)]; omega)) (fun _ => ?_)
        exact wp_s ⟨⟨rfl, rfl⟩, hA2⟩
      · rw [if_neg hm, e1, a_place_out h44 (show s < 4 by omega) hm]
        refine wp_ite (fun _ => ?_) (fun h => absurd (show im < 0 by decide) h)
        refine wp_ite (fun _ => ?_) (fun h => absurd (show q_in (i s) 4 = true from e1 ▸ his) h)
        refine wp_s ⟨⟨?_, rfl⟩, hA2⟩
        show σ.2.1 45 0 _ = la s
        exact h9 s hs
    rw [if_neg h0]
    refine wp_ite (fun h => absurd h (h0)) (fun _ => ?_)
    by_cases h1' : w = i 1
    · rw [if_pos h1']
      refine wp_ite (fun _ => ?_) (fun h => absurd (h1') h)
      refine wp_ite (fun _ => ?_) (fun h => absurd (his) h)
      exact wp_s ⟨⟨h6 s hs, rfl⟩, hA2⟩
    rw [if_neg h1']
    refine wp_ite (fun h => absurd h (h1')) (fun _ => ?_)
    by_cases h2' : w = i 2
    · rw [if_pos h2']
      refine wp_ite (fun _ => ?_) (fun h => absurd (h2') h)
      refine wp_ite (fun _ => ?_) (fun h => absurd (his) h)
      exact wp_s ⟨⟨(h7 s hs).1, rfl⟩, hA2⟩
    rw [if_neg h2']
    refine wp_ite (fun h => absurd h (h2')) (fun _ => ?_)
    by_cases h3' : w = i 3
    · rw [if_pos h3']
      refine wp_ite (fun _ => ?_) (fun h => absurd (h3') h)
      rw [h3']
      exact hp 0 (by decide)
    rw [if_neg h3']
    refine wp_ite (fun h => absurd h (h3')) (fun _ => ?_)
    by_cases h4' : w = i 4
    · rw [if_pos h4']
      refine wp_ite (fun _ => ?_) (fun h => absurd (h4') h)
      rw [h4']
      exact hp 1 (by decide)
    rw [if_neg h4']
    refine wp_ite (fun h => absurd h (h4')) (fun _ => ?_)
    by_cases h5' : w = i 5
    · rw [if_pos h5']
      refine wp_ite (fun _ => ?_) (fun h => absurd (h5') h)
      rw [h5']
      exact hp 2 (by decide)
    rw [if_neg h5']
    refine wp_ite (fun h => absurd h (h5')) (fun _ => ?_)
    by_cases h6' : w = i 6
    · rw [if_pos h6']
      refine wp_ite (fun _ => ?_) (fun h => absurd (h6') h)
      refine wp_e hst ?_
      exact wp_s ⟨⟨rfl, rfl⟩, hA2⟩
    rw [if_neg h6']
    refine wp_ite (fun h => absurd h (h6')) (fun _ => ?_)
    exact wp_s ⟨⟨rfl, rfl⟩, hA2⟩
theorem M_found_s {n : Nat} {x w : Int32} {a : Sq} {σ : J} (hA : mA n σ a) (hw : wfA n a) : wp (M_found n x w σ) (fun q => mR id (o_found n x w a) q ∧ mA n q.2 a) := by
  obtain ⟨now, lat, ts, line, dl, dr, pt, la, jo, tk, fn, os⟩ := a
  have hw' := hw
  obtain ⟨w1, w2, w3, w4, w5, w6, w7, w8, w9, w10, w11, w12, w13⟩ := hw'
  unfold M_found M_found_b0 M_found_b14 M_found_b36 M_found_b94 o_found
  simp only [bs_eq]
  refine wp_e (M_isSession_s hA.1) ?_
  cases h : a_sess n x with
  | false =>
    rw [if_neg (show ¬ false = true by decide)]
    refine wp_ite (fun _ => ?_) (fun h => absurd (show b01 false = 0 from rfl) h)
    refine wp_ite (fun h => absurd h (show ¬ i 1 ≤ 0 by decide)) (fun _ => ?_)
    exact wp_s ⟨rfl, mA_code hA⟩
  | true =>
    obtain ⟨s, hs, e1, e2⟩ := sess_i w13 h
    rw [if_pos rfl, e2]
    refine wp_ite (fun h => absurd h (show ¬ b01 true = 0 by decide)) (fun _ => ?_)
    refine wp_ite (fun _ => ?_) (fun h => absurd (show i 0 ≤ 0 by decide) h)
    have hA2 := mA_code (v := 0) hA
    have hN := hA2.2.2.2.2.2.2.2.2.2.2.1 s hs
    unfold a_found
    by_cases h0 : 0 ≤ w
    · obtain ⟨m, hm, e3, e4⟩ := w_i h0
      subst e3
      refine wp_ite (fun h => absurd h (nlt_of_le h0)) (fun _ => ?_)
      rw [if_neg (nlt_of_le h0), e4]
      have c3' : (i m < 3) = (m < 3) := i_lt hm (by decide)
      have c7 : (i m < 7) = (m < 7) := i_lt hm (by decide)
      have c11 : (i m < 11) = (m < 11) := i_lt hm (by decide)
      by_cases h11 : m < 11
      · refine wp_ite (fun _ => ?_) (fun h => absurd (show i m ≤ 10 by rw [l10, i_le hm (by decide)]; omega) h)
        by_cases h3 : m < 3
        · refine wp_ite (fun h => absurd h (show ¬ 3 ≤ i m by rw [l3, i_le (by decide) hm]; omega)) (fun _ => ?_)
          rw [if_pos (show i m < 3 by rw [c3']; exact h3)]
          have he : 3 * x + i m = i (3 * s + m) := by rw [e1, l3, i_mul, i_add]
          refine wp_ite (fun _ => ?_) (fun h => absurd (show q_in (3 * x + i m) 12 = true by rw [he, i_in (by omega)]; omega) h)
          rw [he, i_n (by omega)]
          exact wp_s ⟨⟨congrArg Int32.toInt64 (hN.1 m h3), rfl⟩, hA2⟩
        · refine wp_ite (fun _ => ?_) (fun h => absurd (show 3 ≤ i m by rw [l3, i_le (by decide) hm]; omega) h)
          rw [if_neg (show ¬ i m < 3 by rw [c3']; exact h3)]
          by_cases h7 : m < 7
          · refine wp_ite (fun h => absurd h (show ¬ 7 ≤ i m by rw [l7, i_le (by decide) hm]; omega)) (fun _ => ?_)
            rw [if_pos (show i m < 7 by rw [c7]; exact h7)]
            have he : 4 * x + i m - 3 = i (4 * s + (m - 3)) := by rw [e1, l4, l3, i_mul, i_add, i_sub (by omega), show 4 * s + m - 3 = 4 * s + (m - 3) by omega]
            refine wp_ite (fun _ => ?_) (fun h => absurd (show q_in (4 * x + i m - 3) 16 = true by rw [he, i_in (by omega)]; omega) h)
            rw [he, i_n (by omega)]
            exact wp_s ⟨⟨congrArg Int32.toInt64 (hN.2 (m - 3) (by omega)).1, rfl⟩, hA2⟩
          · refine wp_ite (fun _ => ?_) (fun h => absurd (show 7 ≤ i m by rw [l7, i_le (by decide) hm]; omega) h)
            rw [if_neg (show ¬ i m < 7 by rw [c7]; exact h7), if_pos (show i m < 11 by rw [c11]; exact h11)]
            have he : 4 * x + i m - 7 = i (4 * s + (m - 7)) := by rw [e1, l4, l7, i_mul, i_add, i_sub (by omega), show 4 * s + m - 7 = 4 * s + (m - 7) by omega]
            refine wp_ite (fun _ => ?_) (fun h => absurd (show q_in (4 * x + i m - 7) 16 = true by rw [he, i_in (by omega)]; omega) h)
            rw [he, i_n (by omega)]
            exact wp_s ⟨⟨(hN.2 (m - 7) (by omega)).2, rfl⟩, hA2⟩
      · refine wp_ite (fun h => absurd h (show ¬ i m ≤ 10 by rw [l10, i_le hm (by decide)]; omega)) (fun _ => ?_)
        rw [if_neg (show ¬ i m < 3 by rw [c3']; omega), if_neg (show ¬ i m < 7 by rw [c7]; omega), if_neg (show ¬ i m < 11 by rw [c11]; exact h11)]
        exact wp_s ⟨⟨rfl, rfl⟩, hA2⟩
    · refine wp_ite (fun _ => ?_) (fun h => absurd (i_neg h0) h)
      rw [if_pos (i_neg h0)]
      exact wp_s ⟨⟨rfl, rfl⟩, hA2⟩
