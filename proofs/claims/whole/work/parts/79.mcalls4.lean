/-! The reference's calls: forget, form, renew, put. Ours. -/
theorem mG_o {σ τ : J} {q r : Nat} {gs : List Fm} (h : mG σ q gs) (hq : q ≠ r) (hl : gs.length ≤ 4) (h38 : ∀ y, y ≠ r → τ.2.1 38 0 y = σ.2.1 38 0 y) (h39 : ∀ y, (y < 4 * r ∨ 4 * r + 4 ≤ y) → τ.2.1 39 0 y = σ.2.1 39 0 y ∧ τ.2.2.1 40 0 y = σ.2.2.1 40 0 y ∧ τ.2.2.1 41 0 y = σ.2.2.1 41 0 y) : mG τ q gs := by
  refine ⟨by rw [h38 q hq]; exact h.1, fun j g hg => ?_⟩
  have hj := (List.getElem?_eq_some_iff.mp hg).1
  obtain ⟨e1, e2, e3⟩ := h39 (4 * q + j) (by omega)
  show τ.2.1 39 0 (4 * q + j) = _ ∧ τ.2.2.1 40 0 (4 * q + j) = _ ∧ τ.2.2.1 41 0 (4 * q + j) = _
  rw [e1, e2, e3]
  exact h.2 j g hg
theorem mA_pt {n s p : Nat} {gs : List Fm} {now lat : Nat} {ts : List Tp} {line : List Nat} {dl : Nat → Nat} {dr : Nat → List FV} {pt : Nat → Nat → List Fm} {la : Nat → Int32} {jo : Nat → Nat} {tk : Nat → Bool} {fn : Nat → Fq} {os : List Od} {σ τ : J} (h : mA n σ (now, lat, ts, line, dl, dr, pt, la, jo, tk, fn, os)) (hw : wfA n (now, lat, ts, line, dl, dr, pt, la, jo, tk, fn, os)) (hs : s < n) (hp : p < 3) (hf : mf (fun k => 38 ≤ k ∧ k ≤ 41) (fun _ => False) σ τ) (hG : mG τ (3 * s + p) gs) (h38 : ∀ y, y ≠ 3 * s + p → τ.2.1 38 0 y = σ.2.1 38 0 y) (h39 : ∀ y, (y < 4 * (3 * s + p) ∨ 4 * (3 * s + p) + 4 ≤ y) → τ.2.1 39 0 y = σ.2.1 39 0 y ∧ τ.2.2.1 40 0 y = σ.2.2.1 40 0 y ∧ τ.2.2.1 41 0 y = σ.2.2.1 41 0 y) : mA n τ (now, lat, ts, line, dl, dr, va_up pt s (va_up (pt s) p gs), la, jo, tk, fn, os) := by
  obtain ⟨h1, h2, h3, h4, h5, h6, h7, h8, h9, h10, h11, h12, h13⟩ := h
  obtain ⟨w1, w2, w3, w4, w5, w6, w7, w8, w9, w10, w11, w12, w13⟩ := hw
  refine ⟨by rw [hf.2 13 (fun q => q)]; exact h1, by rw [hf.2 3 (fun q => q)]; exact h2, by rw [hf.2 2 (fun q => q)]; exact h3, h4.fr hf (fun k _ _ => by omega) (fun q => q), h5.fr hf (by omega) (fun q => q), fun q hq => by rw [(hf.1 34 (by omega)).1]; exact h6 q hq, fun q hq => by rw [(hf.1 35 (by omega)).1, (hf.1 36 (by omega)).1, (hf.1 37 (by omega)).2]; exact h7 q hq, fun q r hq hr => ?_, fun q hq => by rw [(hf.1 45 (by omega)).1]; exact h9 q hq, fun q hq => by rw [(hf.1 43 (by omega)).1, (hf.1 44 (by omega)).1]; exact h10 q hq, fun q hq => (h11 q hq).fr hf (by omega) (by omega) (by omega), ?_, fun v hv => by rw [(hf.1 52 (by omega)).1]; exact h13 v hv⟩
  · unfold va_up
    by_cases e : q = s
    · subst e
      rw [if_pos rfl]
      by_cases e2 : r = p
      · subst e2
        rw [if_pos rfl]; exact hG
      · rw [if_neg e2]
        exact mG_o (h8 q r hq hr) (by omega) (w6 q r hq hr).1 h38 h39
    · rw [if_neg e]
      exact mG_o (h8 q r hq hr) (by omega) (w6 q r hq hr).1 h38 h39
  · refine ⟨by rw [hf.2 30 (fun q => q)]; exact h12.1, fun j o ho => ?_, by rw [(hf.1 49 (by omega)).1, (hf.1 51 (by omega)).1]; exact h12.2.2⟩
    have := h12.2.1 j o ho
    unfold mO at this ⊢
    rw [(hf.1 49 (by omega)).1, (hf.1 50 (by omega)).1, (hf.1 51 (by omega)).1]
    exact ⟨mG_o this.1 (by omega) (w9 o (List.mem_of_getElem? ho)).1.1 h38 h39, this.2⟩
theorem vL_at {f : Nat → Int64} {k : Nat} {x : Int64} : vp_updL f k x k = x := if_pos rfl
theorem vL_ne {f : Nat → Int64} {k j : Nat} {x : Int64} (h : j ≠ k) : vp_updL f k x j = f j := if_neg h
theorem b_dr {α : Type} {l : List α} : (i l.length = i 0) → l.length < 2147483648 → l = [] := fun h h2 => by
  rw [i_eq h2 (by decide)] at h
  exact List.eq_nil_of_length_eq_zero h
theorem M_forget_18 {n f : Nat} {x w : Int32} {r : Bool} {a : Sq} {σ : J} (hA : mA n σ a) (hw : wfA n a) (hf : 10 ≤ f) (hr : r = decide (w = im ∨ (0 ≤ w ∧ w < 3))) : wp (M_forget_b18 n f x w x (b01 r) σ) (fun q => mR id (o_forget n x w a).1 q ∧ mA n q.2 (o_forget n x w a).2) := by
  obtain ⟨now, lat, ts, line, dl, dr, pt, la, jo, tk, fn, os⟩ := a
  have hw' := hw
  obtain ⟨w1, w2, w3, w4, w5, w6, w7, w8, w9, w10, w11, w12, w13⟩ := hw'
  unfold M_forget_b18 M_forget_b56 M_forget_b82 o_forget
  simp only [bs_eq]
  refine wp_e (M_first_a hA hw hf) ?_
  cases hfi : a_first n line x with
  | inr e =>
    have he := e12 (first_e hfi)
    refine wp_ite (fun h => absurd h (show ¬ i e ≤ 0 from i_nle0 he)) (fun _ => ?_)
    exact wp_s ⟨rfl, mA_code hA⟩
  | inl s =>
    obtain ⟨hs, hxs, -⟩ := first_i w13 hfi
    have his : q_in x 4 = true := by rw [hxs, i_in (by omega)]; omega
    have hxn : x.toNatClampNeg = s := by rw [hxs, i_n (by omega)]
    have hA2 := mA_code (v := i 0) hA
    dsimp only
    by_cases h1 : w = im
    · rw [hr, decide_eq_true (Or.inl h1), if_pos h1]
      refine wp_ite (fun _ => ?_) (fun h => absurd (show i 0 ≤ 0 by decide) h)
      have hn0 : ¬ 0 ≤ w := by rw [h1]; decide
      refine wp_ite (fun h => absurd h (hn0)) (fun _ => ?_)
      refine wp_ite (fun _ => ?_) (fun h => absurd (his) h)
      refine wp_ite (fun h => absurd h (hn0)) (fun _ => ?_)
      refine wp_ite (fun _ => ?_) (fun h => absurd (his) h)
      show wp (some (σ.2.1 35 0 x.toNatClampNeg, q_sA (q_sI σ 24 0 0 (i 0)) 35 0 (upd (σ.2.1 35 0) x.toNatClampNeg 0))) _
      rw [hxn]
      have hf : mf (fun k => 35 ≤ k ∧ k ≤ 35) (fun _ => False) (q_sI σ 24 0 0 (i 0)) (q_sA (q_sI σ 24 0 0 (i 0)) 35 0 (upd (σ.2.1 35 0) s 0)) := mf.rf.sA (by omega)
      refine wp_s ⟨⟨(hA.2.2.2.2.2.2.1 s hs).1, rfl⟩, ?_⟩
      obtain ⟨h1, h2, h3, h4, h5, h6, h7, h8, h9, h10, h11, h12, h13⟩ := hA2
      refine ⟨h1, h2, h3, h4.fr hf (fun k _ _ => by omega) (fun q => q), h5.fr hf (by omega) (fun q => q), fun q hq => by rw [(hf.1 34 (by omega)).1]; exact h6 q hq, fun q hq => ?_, fun q p hq hp => (h8 q p hq hp).fr hf (fun k _ _ => (by omega)), fun q hq => by rw [(hf.1 45 (by omega)).1]; exact h9 q hq, fun q hq => by rw [(hf.1 43 (by omega)).1, (hf.1 44 (by omega)).1]; exact h10 q hq, fun q hq => (h11 q hq).fr hf (by omega) (by omega) (by omega), h12.fr hf (fun k _ _ => by omega) (by omega) (by omega) (by omega) (fun q => q), fun v hv => by rw [(hf.1 52 (by omega)).1]; exact h13 v hv⟩
      have hq7 := hA.2.2.2.2.2.2.1 q hq
      unfold va_up
      by_cases e : q = s
      · subst e
        rw [if_pos rfl]
        exact ⟨upd_at, fun j y hy => by cases hy⟩
      · rw [if_neg e]
        exact ⟨(upd_ne e).trans hq7.1, hq7.2⟩
    · rw [if_neg h1]
      by_cases h2 : 0 ≤ w ∧ w < 3
      · rw [hr, decide_eq_true (Or.inr h2), if_pos h2]
        obtain ⟨m, hm, e3, e4⟩ := p3_i h2.1 h2.2
        refine wp_ite (fun _ => ?_) (fun h => absurd (show i 0 ≤ 0 by decide) h)
        refine wp_ite (fun _ => ?_) (fun h => absurd (h2.1) h)
        have he : 3 * x + w = i (3 * s + m) := by rw [hxs, e3, l3, i_mul, i_add]
        refine wp_ite (fun _ => ?_) (fun h => absurd (show q_in (3 * x + w) 18 = true by rw [he, i_in (by omega)]; omega) h)
        refine wp_ite (fun _ => ?_) (fun h => absurd (h2.1) h)
        refine wp_ite (fun _ => ?_) (fun h => absurd (show q_in (3 * x + w) 18 = true by rw [he, i_in (by omega)]; omega) h)
        show wp (some (σ.2.1 38 0 (3 * x + w).toNatClampNeg, q_sA (q_sI σ 24 0 0 (i 0)) 38 0 (upd (σ.2.1 38 0) (3 * x + w).toNatClampNeg 0))) _
        rw [he, i_n (by omega), e4]
        exact wp_s ⟨⟨(hA.2.2.2.2.2.2.2.1 s m hs hm).1, rfl⟩, mA_pt hA2 hw hs hm (mf.rf.sA (by omega)) ⟨upd_at, fun j y hy => by cases hy⟩ (fun y hy => upd_ne hy) (fun y _ => ⟨rfl, rfl, rfl⟩)⟩
      · rw [hr, decide_eq_false (fun q => q.elim h1 h2), if_neg h2]
        refine wp_ite (fun h => absurd h (show ¬ i 3 ≤ 0 by decide)) (fun _ => ?_)
        exact wp_s ⟨rfl, hA2⟩
theorem M_forget_s {n f : Nat} {x w : Int32} {a : Sq} {σ : J} (hA : mA n σ a) (hw : wfA n a) (hf : 10 ≤ f) : wp (M_forget n f x w σ) (fun q => mR id (o_forget n x w a).1 q ∧ mA n q.2 (o_forget n x w a).2) := by
  unfold M_forget M_forget_b0 M_forget_b17
  have e0 : (-1 : Int32).toInt = -1 := rfl
  have e1 : (0 : Int32).toInt = 0 := rfl
  have e2 : (3 : Int32).toInt = 3 := rfl
  have hm : (w = im) = (w.toInt = -1) := propext ⟨fun h => by rw [h]; rfl, fun h => Int32.toInt_inj.mp h⟩
  refine wp_ite (fun h => ?_) (fun h => wp_ite (fun h2 => ?_) (fun h2 => ?_))
  · refine M_forget_18 (r := false) hA hw hf (decide_eq_false ?_).symm
    rw [hm, Int32.le_iff_toInt_le, Int32.lt_iff_toInt_lt]
    rw [Int32.lt_iff_toInt_lt] at h
    omega
  · refine M_forget_18 (r := false) hA hw hf (decide_eq_false ?_).symm
    rw [hm, Int32.le_iff_toInt_le, Int32.lt_iff_toInt_lt]
    rw [Int32.le_iff_toInt_le] at h2
    omega
  · refine M_forget_18 (r := true) hA hw hf (decide_eq_true ?_).symm
    rw [hm, Int32.le_iff_toInt_le, Int32.lt_iff_toInt_lt]
    rw [Int32.le_iff_toInt_le] at h2
    rw [Int32.lt_iff_toInt_lt] at h
    omega
theorem M_form_103 {n f : Nat} {x p c : Int32} {va vb : Int64} {r : Bool} {a : Sq} {σ : J} (hA : mA n σ a) (hw : wfA n a) (hf : 10 ≤ f) (hr : r = decide (0 ≤ p ∧ p < 3 ∧ a_isForm c va = true)) : wp (M_form_b103 n f x p c va vb (b01 r) σ) (fun q => mR id (o_form n x p c va vb a).1 q ∧ mA n q.2 (o_form n x p c va vb a).2) := by
  obtain ⟨now, lat, ts, line, dl, dr, pt, la, jo, tk, fn, os⟩ := a
  have hw' := hw
  obtain ⟨w1, w2, w3, w4, w5, w6, w7, w8, w9, w10, w11, w12, w13⟩ := hw'
  unfold M_form_b103 M_form_b142 M_form_b146 o_form
  simp only [bs_eq]
  refine wp_e (M_first_a hA hw hf) ?_
  cases hfi : a_first n line x with
  | inr e =>
    have he := e12 (first_e hfi)
    refine wp_ite (fun h => absurd h (show ¬ i e = 0 from i_ne0 he)) (fun _ => ?_)
    refine wp_ite (fun h => absurd h (show ¬ i e ≤ 0 from i_nle0 he)) (fun _ => ?_)
    exact wp_s ⟨rfl, mA_code (mA_code hA)⟩
  | inl s =>
    obtain ⟨hs, hxs, -⟩ := first_i w13 hfi
    dsimp only
    by_cases h2 : 0 ≤ p ∧ p < 3 ∧ a_isForm c va = true
    · rw [hr, decide_eq_true h2, if_pos h2]
      obtain ⟨m, hm, e3, e4⟩ := p3_i h2.1 h2.2.1
      have he : 3 * x + p = i (3 * s + m) := by rw [hxs, e3, l3, i_mul, i_add]
      have h18 : q_in (3 * x + p) 18 = true := by rw [he, i_in (by omega)]; omega
      have hen : (3 * x + p).toNatClampNeg = 3 * s + m := by rw [he, i_n (by omega)]
      have hl4 := (w6 s m hs hm).1
      have hG := hA.2.2.2.2.2.2.2.1 s m hs hm
      have hG1 : σ.2.1 38 0 (3 * s + m) = i (pt s m).length := hG.1
      rw [e4]
      refine wp_ite (fun _ => ?_) (fun h => absurd (show i 0 = 0 from rfl) h)
      refine wp_ite (fun _ => ?_) (fun h => absurd (h18) h)
      by_cases h4 : (pt s m).length < 4
      · rw [if_pos h4]
        refine wp_ite (fun h => absurd h (show ¬ σ.2.1 38 0 (3 * x + p).toNatClampNeg = 4 from by rw [hen, hG1, l4, i_eq (by omega) (by decide)]; omega)) (fun _ => ?_)
        refine wp_ite (fun _ => ?_) (fun h => absurd (show i 0 ≤ 0 by decide) h)
        refine wp_ite (fun _ => ?_) (fun h => absurd (h18) h)
        have hx : 4 * (3 * x + p) + σ.2.1 38 0 (3 * x + p).toNatClampNeg = i (4 * (3 * s + m) + (pt s m).length) := by rw [hen, hG1, he, l4, i_mul, i_add]
        have h72 : q_in (4 * (3 * x + p) + σ.2.1 38 0 (3 * x + p).toNatClampNeg) 72 = true := by rw [hx, i_in (by omega)]; omega
        have hn : (4 * (3 * x + p) + σ.2.1 38 0 (3 * x + p).toNatClampNeg).toNatClampNeg = 4 * (3 * s + m) + (pt s m).length := by rw [hx, i_n (by omega)]
        refine wp_ite (fun _ => ?_) (fun h => absurd (h72) h)
        refine wp_ite (fun _ => ?_) (fun h => absurd (h72) h)
        refine wp_ite (fun _ => ?_) (fun h => absurd (h72) h)
        refine wp_ite (fun _ => ?_) (fun h => absurd (h18) h)
        refine wp_ite (fun _ => ?_) (fun h => absurd (h18) h)
        refine wp_ite (fun _ => ?_) (fun h => absurd (h18) h)
        show wp (some (upd (σ.2.1 38 0) (3 * x + p).toNatClampNeg (σ.2.1 38 0 (3 * x + p).toNatClampNeg + 1) (3 * x + p).toNatClampNeg, q_sA (q_sL (q_sL (q_sA (q_sI (q_sI σ 24 0 0 (i 0)) 24 0 0 (i 0)) 39 0 (upd (σ.2.1 39 0) (4 * (3 * x + p) + σ.2.1 38 0 (3 * x + p).toNatClampNeg).toNatClampNeg c)) 40 0 (vp_updL (σ.2.2.1 40 0) (4 * (3 * x + p) + σ.2.1 38 0 (3 * x + p).toNatClampNeg).toNatClampNeg va)) 41 0 (vp_updL (σ.2.2.1 41 0) (4 * (3 * x + p) + σ.2.1 38 0 (3 * x + p).toNatClampNeg).toNatClampNeg vb)) 38 0 (upd (σ.2.1 38 0) (3 * x + p).toNatClampNeg (σ.2.1 38 0 (3 * x + p).toNatClampNeg + 1)))) _
        rw [hn, hen, hG1, l1, i_add]
        refine wp_s ⟨⟨upd_at, rfl⟩, mA_pt (mA_code (v := i 0) (mA_code (v := i 0) hA)) hw hs hm ((((mf.rf.sA (by omega)).sL (by omega)).sL (by omega)).sA (by omega)) ⟨?_, fun j y hy => ?_⟩ (fun y hy => upd_ne hy) (fun y hy => ⟨upd_ne (by omega), vL_ne (by omega), vL_ne (by omega)⟩)⟩
        · rw [List.length_append]; exact upd_at
        · show upd (σ.2.1 39 0) (4 * (3 * s + m) + (pt s m).length) c (4 * (3 * s + m) + j) = _ ∧ vp_updL (σ.2.2.1 40 0) (4 * (3 * s + m) + (pt s m).length) va (4 * (3 * s + m) + j) = _ ∧ vp_updL (σ.2.2.1 41 0) (4 * (3 * s + m) + (pt s m).length) vb (4 * (3 * s + m) + j) = _
          by_cases ej : j = (pt s m).length
          · subst ej
            rw [List.getElem?_append_right (Nat.le_refl _), Nat.sub_self] at hy
            cases hy
            exact ⟨upd_at, vL_at, vL_at⟩
          · have hjl := (List.getElem?_eq_some_iff.mp hy).1
            rw [List.length_append] at hjl
            replace hjl : j < (pt s m).length + 1 := hjl
            rw [List.getElem?_append_left (by omega)] at hy
            rw [upd_ne (by omega), vL_ne (by omega), vL_ne (by omega)]
            exact hG.2 j y hy
      · rw [if_neg h4]
        refine wp_ite (fun _ => ?_) (fun h => absurd (show σ.2.1 38 0 (3 * x + p).toNatClampNeg = 4 from by rw [hen, hG1, l4, i_eq (by omega) (by decide)]; omega) h)
        refine wp_ite (fun h => absurd h (show ¬ i 4 ≤ 0 by decide)) (fun _ => ?_)
        exact wp_s ⟨rfl, mA_code (mA_code hA)⟩
    · rw [hr, decide_eq_false h2, if_neg h2]
      refine wp_ite (fun h => absurd h (show ¬ i 3 = 0 by decide)) (fun _ => ?_)
      refine wp_ite (fun h => absurd h (show ¬ i 3 ≤ 0 by decide)) (fun _ => ?_)
      exact wp_s ⟨rfl, mA_code (mA_code hA)⟩
