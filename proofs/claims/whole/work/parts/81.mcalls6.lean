/-! The reference's calls: find, swap. Ours. -/
theorem mA_45 {n s : Nat} {now lat : Nat} {ts : List Tp} {line : List Nat} {dl : Nat → Nat} {dr : Nat → List FV} {pt : Nat → Nat → List Fm} {la : Nat → Int32} {jo : Nat → Nat} {tk : Nat → Bool} {fn : Nat → Fq} {os : List Od} {σ : J} (h : mA n σ (now, lat, ts, line, dl, dr, pt, la, jo, tk, fn, os)) : mA n (q_sA σ 45 0 (upd (σ.2.1 45 0) s 0)) (now, lat, ts, line, dl, dr, pt, va_up la s (i 0), jo, tk, fn, os) := by
  have hf : mf (fun k => k = 45) (fun _ => False) σ (q_sA σ 45 0 (upd (σ.2.1 45 0) s 0)) := mf.rf.sA rfl
  obtain ⟨h1, h2, h3, h4, h5, h6, h7, h8, h9, h10, h11, h12, h13⟩ := h
  refine ⟨h1, h2, h3, h4.fr hf (fun k _ _ => by omega) (fun q => q), h5.fr hf (by omega) (fun q => q), fun q hq => by rw [(hf.1 34 (by omega)).1]; exact h6 q hq, fun q hq => by rw [(hf.1 35 (by omega)).1, (hf.1 36 (by omega)).1, (hf.1 37 (by omega)).2]; exact h7 q hq, fun q p hq hp => (h8 q p hq hp).fr hf (fun k _ _ => (by omega)), fun q hq => ?_, fun q hq => ?_, fun q hq => (h11 q hq).fr hf (by omega) (by omega) (by omega), h12.fr hf (fun k _ _ => by omega) (by omega) (by omega) (by omega) (fun q => q), fun v hv => by rw [(hf.1 52 (by omega)).1]; exact h13 v hv⟩
  · unfold va_up
    by_cases e : q = s
    · rw [if_pos e, e]; exact upd_at
    · rw [if_neg e]; exact (upd_ne e).trans (h9 q hq)
  · obtain ⟨x1, x2⟩ := h10 q hq
    unfold va_up
    by_cases e : q = s
    · rw [if_pos e]; exact ⟨rfl, x2⟩
    · rw [if_neg e]; exact ⟨x1, x2⟩
theorem how : ∀ m, m < 4 → (i m &&& 1 = b01 (!decide (i m &&& 1 = 0))) ∧ ((2 ≤ i m) ↔ ¬ i m &&& 2 = 0) := by decide +kernel
theorem M_find_28 {n f : Nat} {x j h : Int32} {r : Bool} {now lat : Nat} {ts : List Tp} {line : List Nat} {dl : Nat → Nat} {dr : Nat → List FV} {pt : Nat → Nat → List Fm} {la : Nat → Int32} {jo : Nat → Nat} {tk : Nat → Bool} {fn : Nat → Fq} {os : List Od} {σ : J} (hA : mA n σ (now, lat, ts, line, dl, dr, pt, la, jo, tk, fn, os)) (hw : wfA n (now, lat, ts, line, dl, dr, pt, la, jo, tk, fn, os)) (hf : 18200 ≤ f) (hr : ∀ s, a_first n line x = .inl s → r = decide (0 ≤ h ∧ h ≤ 3 ∧ a_hasP (pt s) j = true)) : wp (M_find_b28 n f x j h x (b01 r) σ) (fun q => mR id (o_find n x j h (now, lat, ts, line, dl, dr, pt, la, jo, tk, fn, os)).1 q ∧ mA n q.2 (o_find n x j h (now, lat, ts, line, dl, dr, pt, la, jo, tk, fn, os)).2) := by
  have hw' := hw
  obtain ⟨w1, w2, w3, w4, w5, w6, w7, w8, w9, w10, w11, w12, w13⟩ := hw'
  unfold M_find_b28 M_find_b79 o_find
  simp only [bs_eq]
  refine wp_e (M_first_a hA hw (by omega)) ?_
  cases hfi : a_first n line x with
  | inr e =>
    have he := e12 (first_e hfi)
    refine wp_ite (fun q_ => absurd q_ (show ¬ i e ≤ 0 from i_nle0 he)) (fun _ => ?_)
    exact wp_s ⟨rfl, mA_code hA⟩
  | inl s =>
    obtain ⟨hs, hxs, hml⟩ := first_i w13 hfi
    have hxn : x.toNatClampNeg = s := by rw [hxs, i_n (by omega)]
    have his : q_in x 4 = true := by rw [hxs, i_in (by omega)]; omega
    dsimp only
    rw [hr s hfi]
    by_cases h2 : 0 ≤ h ∧ h ≤ 3 ∧ a_hasP (pt s) j = true
    · rw [decide_eq_true h2, if_pos h2]
      obtain ⟨m, hm1, hm3, e1, e2⟩ := hasP_i h2.2.2
      obtain ⟨hh, hhb, e3, -⟩ := w_i h2.1
      have hh4 : hh < 4 := by
        have := h2.2.1
        rw [e3, l3, i_le hhb (by decide)] at this
        omega
      obtain ⟨hb1, hb2⟩ := how hh hh4
      rw [← e3] at hb1 hb2
      refine wp_ite (fun _ => ?_) (fun q_ => absurd (show i 0 ≤ 0 by decide) q_)
      refine wp_ite (fun _ => ?_) (fun q_ => absurd (his) q_)
      show wp ((M_clear n f x (q_sA (q_sI σ 24 0 0 (i 0)) 45 0 (upd (σ.2.1 45 0) x.toNatClampNeg 0))).bind _) _
      rw [hxn, hxs, e1, i_n (by omega)]
      have hA2 := mA_45 (s := s) (mA_code (v := i 0) hA)
      refine wp_bind (M_clear_s (n := n) (by omega) (by omega)) (fun τ hτ => ?_)
      obtain ⟨t1, t2, t3⟩ := hτ
      have hA3 := mA_grant hA2 t1 t3 (hA2.2.2.2.1.fr t2 (fun k _ _ => by unfold Kf; omega) (fun q => q)) (t2.up (fun k q => Or.inr q) (fun f q => q.elim))
      have hw3 : wfA n (now, lat, ts, line, dl, dr, pt, va_up la s (i 0), jo, tk, va_up fn s a_fn0, os) := wfA_ask hw
      refine wp_bind (M_search_s (n := n) (f := f) w13 hs hm1 hm3 (fun p hp => w6 s p hs hp) (w1.b w4) (by omega) hA3.2.2.2.1 (fun p hp => hA3.2.2.2.2.2.2.2.1 s p hs hp) hA3.2.2.2.2.2.2.2.2.2.2.2.2) (fun q hq => ?_)
      obtain ⟨q1, q2⟩ := q
      obtain ⟨d1, d2, d3, d4⟩ := hq
      replace d1 : q1 = _ := d1
      subst d1
      dsimp only at d2 d3 d4 ⊢
      have hA4 := mA_se hA3 d2 d3
      have hcd : q2.1 24 0 0 = i 0 := (d2.2 0 (fun q => q)).trans ((t2.2 0 (fun q => q)).trans rfl)
      cases hse : a_search s ts (pt s) m with
      | none =>
        refine wp_ite (fun _ => ?_) (fun q_ => absurd (show b01 (none : Option Fq).isSome = 0 from rfl) q_)
        dsimp only
        by_cases hW : h &&& 2 = 0
        · rw [if_pos hW]
          refine wp_ite (fun q_ => absurd q_ (show ¬ 2 ≤ h from fun q => hb2.mp q hW)) (fun _ => ?_)
          exact wp_s ⟨⟨rfl, hcd⟩, hA4⟩
        · rw [if_neg hW]
          refine wp_ite (fun _ => ?_) (fun q_ => absurd (show 2 ≤ h from hb2.mpr hW) q_)
          have hlt := line_lt w2 w3 hs hml w13
          have hA4' := hA4
          obtain ⟨h1, h2, h3, h4, h5, h6, h7, h8, h9, h10, h11, h12, h13⟩ := hA4'
          have h22 : q2.1 24 22 0 = i line.length := h5.1
          refine wp_ite (fun _ => ?_) (fun q_ => absurd (show q_in (q2.1 24 22 0) 4 = true by rw [h22, i_in (by omega)]; omega) q_)
          refine wp_ite (fun _ => ?_) (fun q_ => absurd (show q_in (i s) 4 = true by rw [i_in (by omega)]; omega) q_)
          refine wp_ite (fun _ => ?_) (fun q_ => absurd (show q_in (i s) 4 = true by rw [i_in (by omega)]; omega) q_)
          show wp (some ((0 : Int32), q_sA (q_sA (q_sI (q_sA q2 42 0 (upd (q2.2.1 42 0) (q2.1 24 22 0).toNatClampNeg (i s))) 24 22 0 (q2.1 24 22 0 + 1)) 43 0 (upd (q2.2.1 43 0) s (i m))) 44 0 (upd (q2.2.1 44 0) s h))) _
          rw [h22, i_n (by omega), l1, i_add]
          have hf : mf (fun k => 42 ≤ k ∧ k ≤ 44) (fun f => f = 22) q2 (q_sA (q_sA (q_sI (q_sA q2 42 0 (upd (q2.2.1 42 0) line.length (i s))) 24 22 0 (i (line.length + 1))) 43 0 (upd (q2.2.1 43 0) s (i m))) 44 0 (upd (q2.2.1 44 0) s h)) := (((mf.rf.sA (K := fun k => 42 ≤ k ∧ k ≤ 44) (F := fun f => f = 22) ⟨by decide, by decide⟩).sI rfl).sA ⟨by decide, by decide⟩).sA ⟨by decide, by decide⟩
          refine wp_s ⟨⟨rfl, hcd⟩, ⟨by rw [hf.2 13 (by omega)]; exact h1, by rw [hf.2 3 (by omega)]; exact h2, by rw [hf.2 2 (by omega)]; exact h3, h4.fr hf (fun k _ _ => (by omega)) (by omega), ⟨?_, fun j q hj => ?_⟩, fun q hq => by rw [(hf.1 34 (by omega)).1]; exact h6 q hq, fun q hq => by rw [(hf.1 35 (by omega)).1, (hf.1 36 (by omega)).1, (hf.1 37 (by omega)).2]; exact h7 q hq, fun q p hq hp => (h8 q p hq hp).fr hf (fun k _ _ => (by omega)), fun q hq => by rw [(hf.1 45 (by omega)).1]; exact h9 q hq, fun q hq => ?_, fun q hq => (h11 q hq).fr hf (by omega) (by omega) (by omega), h12.fr hf (fun k _ _ => (by omega)) (by omega) (by omega) (by omega) (by omega), fun v hv => by rw [(hf.1 52 (by omega)).1]; exact h13 v hv⟩⟩
          · rw [List.length_append]; rfl
          · show upd (q2.2.1 42 0) line.length (i s) j = i q
            by_cases ej : j = line.length
            · subst ej
              rw [List.getElem?_append_right (Nat.le_refl _), Nat.sub_self] at hj
              cases hj
              exact upd_at
            · have hjl := (List.getElem?_eq_some_iff.mp hj).1
              rw [List.length_append] at hjl
              replace hjl : j < line.length + 1 := hjl
              rw [List.getElem?_append_left (by omega)] at hj
              rw [upd_ne ej]
              exact h5.2 j q hj
          · show va_up la s (i 0) q = i 0 ∧ upd (q2.2.1 43 0) s (i m) q = i (va_up jo s m q) ∧ upd (q2.2.1 44 0) s h q &&& 1 = b01 (va_up tk s (!decide (h &&& 1 = 0)) q)
            by_cases e : q = s
            · subst e
              rw [upd_at, upd_at]
              unfold va_up
              rw [if_pos rfl, if_pos rfl, if_pos rfl]
              exact ⟨rfl, rfl, hb1⟩
            · rw [upd_ne e, upd_ne e]
              rcases List.mem_append.mp hq with hq | hq
              · have := h10 q hq
                unfold va_up at this ⊢
                rw [if_neg e, if_neg e, if_neg e]
                rw [if_neg e] at this
                exact this
              · exact absurd (List.mem_singleton.mp hq) e
      | some r =>
        refine wp_ite (fun q_ => absurd q_ (show ¬ b01 (some r).isSome = 0 from (by decide : ¬ b01 true = 0))) (fun _ => ?_)
        dsimp only
        have hok := a_dfs_ok (fun t ht => (w1.2 t ht).2.2.2.2.2) hse (fun v x e => by cases e) List.nodup_nil
        have fin : ∀ b : Bool, b = (!decide (h &&& 1 = 0)) → wp ((M_keep n f (i s) (i m) (b01 b) q2).bind fun q12 => if q_in (3 * i s) 12 = true then some (q12.2.1 46 0 (3 * i s).toNatClampNeg, q12) else none) (fun q => mR id (.inl (r.1.getD 0 im)) q ∧ mA n q.2 (now, lat, a_grant s (dl s) (!decide (h &&& 1 = 0)) ts r, line, dl, dr, pt, va_up la s (i 0), jo, tk, va_up fn s r, os)) := by
          intro b hb
          rw [← hb]
          refine wp_bind (M_keep_s (n := n) (f := f) (tk := b) (by omega) hm3 (a_search_len hse) (w4 s hs) (by omega) (d4 r hse).1 (d4 r hse).2 hok.1 hok.2 hA4.2.2.2.1 w1.1 (fun t ht => (w1.2 t ht).2.2.2.2.1) (hA4.2.2.2.2.2.1 s hs)) (fun ω hω => ?_)
          obtain ⟨o1, o2, o3, o4⟩ := hω
          have he : 3 * i s = i (3 * s + 0) := by rw [l3, i_mul]; rfl
          refine wp_ite (fun _ => ?_) (fun q_ => absurd (show q_in (3 * i s) 12 = true by rw [he, i_in (by omega)]; omega) q_)
          rw [he, i_n (by omega)]
          have hg := mA_grant hA4 o1 o2 o3 o4
          rw [va_up2] at hg
          exact wp_s ⟨⟨o1.1 0 (by decide), (o4.2 0 (by unfold F1; omega)).trans hcd⟩, hg⟩
        refine wp_ite (fun h1 => ?_) (fun h1 => ?_)
        · refine fin true ?_
          rw [hb1] at h1
          cases hq : (!decide (h &&& 1 = 0)) with
          | true => rfl
          | false => rw [hq] at h1; exact absurd h1 (by decide)
        · refine fin false ?_
          rw [hb1] at h1
          cases hq : (!decide (h &&& 1 = 0)) with
          | false => rfl
          | true => rw [hq] at h1; exact absurd rfl h1
    · rw [decide_eq_false h2, if_neg h2]
      refine wp_ite (fun q_ => absurd q_ (show ¬ i 3 ≤ 0 by decide)) (fun _ => ?_)
      exact wp_s ⟨rfl, mA_code hA⟩
theorem first_se {n s : Nat} {line : List Nat} {x : Int32} (h : a_first n line x = .inl s) : a_sess n x = true := by
  cases q : a_sess n x with
  | true => rfl
  | false => exact absurd h (first_no q s)
theorem M_find_s {n f : Nat} {x j h : Int32} {a : Sq} {σ : J} (hA : mA n σ a) (hw : wfA n a) (hf : 18200 ≤ f) : wp (M_find n f x j h σ) (fun q => mR id (o_find n x j h a).1 q ∧ mA n q.2 (o_find n x j h a).2) := by
  obtain ⟨now, lat, ts, line, dl, dr, pt, la, jo, tk, fn, os⟩ := a
  unfold M_find M_find_b0 M_find_b27
  refine wp_e (M_ready_s hA hw (by omega)) ?_
  cases h1 : (a_sess n x && a_hasP (pt x.toNatClampNeg) j) with
  | false =>
    refine wp_ite (fun _ => ?_) (fun q_ => absurd (show b01 false = 0 from rfl) q_)
    refine M_find_28 (r := false) hA hw hf (fun s q => (decide_eq_false (fun q1 => ?_)).symm)
    rw [first_se q, ← first_s rfl s q, q1.2.2] at h1
    cases h1
  | true =>
    refine wp_ite (fun q_ => absurd q_ (show ¬ b01 true = 0 by decide)) (fun _ => ?_)
    refine wp_e (M_within_s.trans (congrArg (fun b => some (b01 b, σ)) (within_i (m := 3) (by decide)))) ?_
    rw [b2]
    by_cases h2 : 0 ≤ h ∧ h ≤ i 3
    · rw [decide_eq_true h2]
      refine wp_ite (fun q_ => absurd q_ (show ¬ b01 true = 0 by decide)) (fun _ => ?_)
      refine M_find_28 (r := true) hA hw hf (fun s q => (decide_eq_true ⟨h2.1, h2.2, ?_⟩).symm)
      rw [first_se q, ← first_s rfl s q] at h1
      exact h1
    · rw [decide_eq_false h2]
      refine wp_ite (fun _ => ?_) (fun q_ => absurd (show b01 false = 0 from rfl) q_)
      exact M_find_28 (r := false) hA hw hf (fun s q => (decide_eq_false (fun q1 => h2 ⟨q1.1, q1.2.1⟩)).symm)
theorem M_swap_76 {n f s : Nat} {r0 : Option Fq} {now lat : Nat} {ts : List Tp} {line : List Nat} {dl : Nat → Nat} {dr : Nat → List FV} {pt : Nat → Nat → List Fm} {la : Nat → Int32} {jo : Nat → Nat} {tk : Nat → Bool} {fn : Nat → Fq} {os : List Od} {σ : J} (hA : mA n σ (now, lat, ts, line, dl, dr, pt, la, jo, tk, fn, os)) (hw : wfA n (now, lat, ts, line, dl, dr, pt, la, jo, tk, fn, os)) (hs : s < n) (hl : lat < 1000) (hf : 18500 ≤ f) (h0 : a_search s ts (pt s) 1 = r0) (hr : ∀ r, r0 = some r → mAt σ ts r.1 ∧ mbd σ 1 r.2 ∧ (a_grant s (dl s) true ts r).length < 20) : wp (M_swap_b76 n f (i s) (b01 r0.isSome) 0 σ) (fun q => match r0 with
    | some r => mR id (.inl (i (lat + 1))) q ∧ mA n q.2 (a_put s (i 0) (now, lat, a_grant s (dl s) true ts r, line, dl, dr, pt, va_up la s (i 0), jo, tk, va_up fn s r, os))
    | none => mR id (.inl im) q ∧ mA n q.2 (now, lat, ts, line, dl, dr, pt, va_up la s (i 0), jo, tk, va_up fn s a_fn0, os)) := by
  have hw' := hw
  obtain ⟨w1, w2, w3, w4, w5, w6, w7, w8, w9, w10, w11, w12, w13⟩ := hw'
  unfold M_swap_b76
  simp only [bs_eq]
  refine wp_ite (fun _ => ?_) (fun q_ => absurd (show i 0 ≤ 0 by decide) q_)
  refine wp_ite (fun _ => ?_) (fun q_ => absurd (show q_in (i s) 4 = true by rw [i_in (by omega)]; omega) q_)
  show wp ((M_clear n f (i s) (q_sA (q_sI σ 24 0 0 (i 0)) 45 0 (upd (σ.2.1 45 0) (i s).toNatClampNeg 0))).bind _) _
  rw [i_n (by omega)]
  have hA2 := mA_45 (s := s) (mA_code (v := i 0) hA)
  refine wp_bind (M_clear_s (n := n) (by omega) (by omega)) (fun τ hτ => ?_)
  obtain ⟨t1, t2, t3⟩ := hτ
  have hA3 := mA_grant hA2 t1 t3 (hA2.2.2.2.1.fr t2 (fun k _ _ => by unfold Kf; omega) (fun q => q)) (t2.up (fun k q => Or.inr q) (fun f q => q.elim))
  have hcd : τ.1 24 0 0 = i 0 := (t2.2 0 (fun q => q)).trans rfl
  cases r0 with
  | none =>
    refine wp_ite (fun _ => ?_) (fun q_ => absurd (show b01 (none : Option Fq).isSome = 0 from rfl) q_)
    exact wp_s ⟨⟨rfl, hcd⟩, hA3⟩
  | some r =>
    obtain ⟨r1, r2, r3⟩ := hr r rfl
    refine wp_ite (fun q_ => absurd q_ (show ¬ b01 (some r).isSome = 0 from (by decide : ¬ b01 true = 0))) (fun _ => ?_)
    have hok := a_dfs_ok (fun t ht => (w1.2 t ht).2.2.2.2.2) h0 (fun v x e => by cases e) List.nodup_nil
    have hAt : mAt τ ts r.1 := fun j m hm => by rw [(t2.1 54 (by unfold Kf; omega)).1]; exact r1 j m hm
    have hbd : mbd τ 1 r.2 := fun v hv => by rw [(t2.1 52 (by unfold Kf; omega)).1, (t2.1 53 (by unfold Kf; omega)).2]; exact r2 v hv
    refine wp_bind (M_keep_s (n := n) (f := f) (tk := true) (by omega) (by decide) (a_search_len h0) (w4 s hs) (by omega) hAt hbd hok.1 hok.2 hA3.2.2.2.1 w1.1 (fun t ht => (w1.2 t ht).2.2.2.2.1) (hA3.2.2.2.2.2.1 s hs)) (fun ω hω => ?_)
    obtain ⟨o1, o2, o3, o4⟩ := hω
    have hg := mA_grant hA3 o1 o2 o3 o4
    rw [va_up2] at hg
    have hw4 : wfA n (now, lat, a_grant s (dl s) true ts r, line, dl, dr, pt, va_up la s (i 0), jo, tk, va_up fn s r, os) := wfA_ask (wfA_grant (fn1 := fn) (tk1 := tk) (b := true) (r := r) hw hs)
    refine wp_bind (M_add_s hg hw4 hs (show a_span 0 = true from rfl) hl r3 hf) (fun q hq => ?_)
    exact wp_s ⟨⟨hq.1, (hq.2.2.trans (o4.2 0 (by unfold F1; omega))).trans hcd⟩, hq.2.1⟩
theorem M_swap_26 {n f : Nat} {x : Int32} {r : Bool} {now lat : Nat} {ts : List Tp} {line : List Nat} {dl : Nat → Nat} {dr : Nat → List FV} {pt : Nat → Nat → List Fm} {la : Nat → Int32} {jo : Nat → Nat} {tk : Nat → Bool} {fn : Nat → Fq} {os : List Od} {σ : J} (hA : mA n σ (now, lat, ts, line, dl, dr, pt, la, jo, tk, fn, os)) (hw : wfA n (now, lat, ts, line, dl, dr, pt, la, jo, tk, fn, os)) (hl : lat < 1000) (hf : 18500 ≤ f) (hr : ∀ s, a_first n line x = .inl s → r = decide (dr s ≠ [] ∧ pt s 0 ≠ [])) : wp (M_swap_b26 n f x x (b01 r) σ) (fun q => mR id (o_swap n x (now, lat, ts, line, dl, dr, pt, la, jo, tk, fn, os)).1 q ∧ mA n q.2 (o_swap n x (now, lat, ts, line, dl, dr, pt, la, jo, tk, fn, os)).2) := by
  have hw' := hw
  obtain ⟨w1, w2, w3, w4, w5, w6, w7, w8, w9, w10, w11, w12, w13⟩ := hw'
  unfold M_swap_b26 M_swap_b75 o_swap
  simp only [bs_eq]
  refine wp_e (M_first_a hA hw (by omega)) ?_
  cases hfi : a_first n line x with
  | inr e =>
    have he := e12 (first_e hfi)
    refine wp_ite (fun q_ => absurd q_ (show ¬ i e ≤ 0 from i_nle0 he)) (fun _ => ?_)
    exact wp_s ⟨rfl, mA_code hA⟩
  | inl s =>
    obtain ⟨hs, hxs, hml⟩ := first_i w13 hfi
    dsimp only
    rw [hr s hfi]
    by_cases h2 : dr s ≠ [] ∧ pt s 0 ≠ []
    · rw [decide_eq_true h2, if_pos h2]
      refine wp_ite (fun _ => ?_) (fun q_ => absurd (show i 0 ≤ 0 by decide) q_)
      have hA3 := mA_code (v := i 0) hA
      rw [hxs]
      refine wp_bind (M_search_s (n := n) (f := f) (joined := 1) w13 hs (by decide) (by decide) (fun p hp => w6 s p hs hp) (w1.b w4) (by omega) hA3.2.2.2.1 (fun p hp => hA3.2.2.2.2.2.2.2.1 s p hs hp) hA3.2.2.2.2.2.2.2.2.2.2.2.2) (fun q hq => ?_)
      obtain ⟨q1, q2⟩ := q
      obtain ⟨d1, d2, d3, d4⟩ := hq
      replace d1 : q1 = _ := d1
      subst d1
      dsimp only at d2 d3 d4 ⊢
      have hA4 := mA_se hA3 d2 d3
      have hB := hA4.2.2.2.1
      have h20 := hB.2.1
      cases hse : a_search s ts (pt s) 1 with
      | none =>
        refine wp_ite (fun _ => ?_) (fun q_ => absurd (show b01 (none : Option Fq).isSome = 0 from rfl) q_)
        exact M_swap_76 (r0 := none) hA4 hw hs hl hf hse (fun r q => by cases q)
      | some r =>
        refine wp_ite (fun q_ => absurd q_ (show ¬ b01 (some r).isSome = 0 from (by decide : ¬ b01 true = 0))) (fun _ => ?_)
        refine wp_ite (fun _ => ?_) (fun q_ => absurd (show q_in (i s) 4 = true by rw [i_in (by omega)]; omega) q_)
        have hd4 := w4 s hs
        have h34 : q2.2.1 34 0 (i s).toNatClampNeg = i (dl s) := by rw [i_n (by omega)]; exact hA4.2.2.2.2.2.1 s hs
        have key : (a_grant s (dl s) true ts r).length < 20 → wp (M_swap_b76 n f (i s) (b01 (some r).isSome) 0 q2) (fun q => mR id (.inl (i (lat + 1))) q ∧ mA n q.2 (a_put s (i 0) (now, lat, a_grant s (dl s) true ts r, line, dl, dr, pt, va_up la s (i 0), jo, tk, va_up fn s r, os))) := fun hgl => M_swap_76 (r0 := some r) hA4 hw hs hl hf hse (fun r' q => by cases q; exact ⟨(d4 r hse).1, (d4 r hse).2, hgl⟩)
        have hgl := grant_len (s := s) (d := dl s) (tk := true) (ts := ts) (r := r)
        dsimp only
        by_cases hd0 : dl s = 0
        · rw [if_neg (show ¬ (dl s ≠ 0 ∧ ¬ ts.length < 20) from fun q => q.1 hd0)]
          refine wp_ite (fun _ => ?_) (fun q_ => absurd (show q2.2.1 34 0 (i s).toNatClampNeg ≤ 0 by rw [h34, hd0]; decide) q_)
          refine key ?_
          have := grant_lt hse w1.1
          rw [hd0]; omega
        · refine wp_ite (fun q_ => absurd q_ (show ¬ q2.2.1 34 0 (i s).toNatClampNeg ≤ 0 by rw [h34, l0, i_le (by omega) (by decide)]; omega)) (fun _ => ?_)
          by_cases h4 : ts.length < 20
          · rw [if_neg (show ¬ (dl s ≠ 0 ∧ ¬ ts.length < 20) from fun q => q.2 h4)]
            refine wp_ite (fun q_ => absurd q_ (show ¬ q2.1 24 1 0 = 20 by rw [hB.1, l20, i_eq (by omega) (by decide)]; omega)) (fun _ => ?_)
            exact key (by omega)
          · rw [if_pos (show dl s ≠ 0 ∧ ¬ ts.length < 20 from ⟨hd0, h4⟩)]
            refine wp_ite (fun _ => ?_) (fun q_ => absurd (show q2.1 24 1 0 = 20 by rw [hB.1, l20, i_eq (by omega) (by decide)]; omega) q_)
            unfold M_swap_b76
            simp only [bs_eq]
            refine wp_ite (fun q_ => absurd q_ (show ¬ i 4 ≤ 0 by decide)) (fun _ => ?_)
            exact wp_s ⟨rfl, mA_code hA4⟩
    · rw [decide_eq_false h2, if_neg h2]
      refine wp_ite (fun q_ => absurd q_ (show ¬ i 3 ≤ 0 by decide)) (fun _ => ?_)
      exact wp_s ⟨rfl, mA_code hA⟩
theorem M_swap_s {n f : Nat} {x : Int32} {a : Sq} {σ : J} (hA : mA n σ a) (hw : wfA n a) (hl : a.2.1 < 1000) (hf : 18500 ≤ f) : wp (M_swap n f x σ) (fun q => mR id (o_swap n x a).1 q ∧ mA n q.2 (o_swap n x a).2) := by
  obtain ⟨now, lat, ts, line, dl, dr, pt, la, jo, tk, fn, os⟩ := a
  have hw' := hw
  obtain ⟨w1, w2, w3, w4, w5, w6, w7, w8, w9, w10, w11, w12, w13⟩ := hw'
  unfold M_swap M_swap_b0 M_swap_b25
  refine wp_e (M_ready_s hA hw (by omega)) ?_
  rw [hasP_1, isE]
  cases h1 : (a_sess n x && decide (pt x.toNatClampNeg 0 ≠ [])) with
  | false =>
    refine wp_ite (fun _ => ?_) (fun q_ => absurd (show b01 false = 0 from rfl) q_)
    refine M_swap_26 (r := false) hA hw hl hf (fun s q => (decide_eq_false (fun q1 => ?_)).symm)
    rw [first_se q, ← first_s rfl s q, decide_eq_true q1.2] at h1
    cases h1
  | true =>
    rw [Bool.and_eq_true] at h1
    obtain ⟨s, hs, e1, e2⟩ := sess_i w13 h1.1
    have h2 := of_decide_eq_true h1.2
    rw [e2] at h2
    refine wp_ite (fun q_ => absurd q_ (show ¬ b01 true = 0 by decide)) (fun _ => ?_)
    have his : q_in x 4 = true := by rw [e1, i_in (by omega)]; omega
    refine wp_ite (fun _ => ?_) (fun q_ => absurd (his) q_)
    have hd : σ.2.1 35 0 x.toNatClampNeg = i (dr s).length := by rw [e2]; exact (hA.2.2.2.2.2.2.1 s hs).1
    have hl4 := (w5 s hs).1
    have hz : (σ.2.1 35 0 x.toNatClampNeg ≤ 0) = (dr s = []) := by
      rw [hd, l0, i_le (by omega) (by decide)]
      exact propext ⟨fun q => List.eq_nil_of_length_eq_zero (by omega), fun q => by rw [q]; exact Nat.le_refl _⟩
    refine wp_ite (fun q => ?_) (fun q => ?_)
    · exact M_swap_26 (r := false) hA hw hl hf (fun s1 q1 => by rw [first_s e2 s1 q1]; exact (decide_eq_false (fun q2 => q2.1 (hz ▸ q))).symm)
    · exact M_swap_26 (r := true) hA hw hl hf (fun s1 q1 => by rw [first_s e2 s1 q1]; exact (decide_eq_true ⟨fun q2 => q (hz ▸ q2), h2⟩).symm)
