/-! The reference's calls: forget, form, renew, put. Ours. -/
theorem mG_o {σ τ : J} {q r : Nat} {gs : List Fm} (h : mG σ q gs) (hq : q ≠ r) (hl : gs.length ≤ 4) (h38 : ∀ y, y ≠ r → τ.2.1 38 0 y = σ.2.1 38 0 y) (h39 : ∀ y, (y < 4 * r ∨ 4 * r + 4 ≤ y) → τ.2.1 39 0 y = σ.2.1 39 0 y ∧ τ.2.2.1 40 0 y = σ.2.2.1 40 0 y ∧ τ.2.2.1 41 0 y = σ.2.2.1 41 0 y) : mG τ q gs := by
  refine ⟨by rw [h38 q hq]; exact h.1, fun j g hg => ?_⟩
  have hj := (List.getElem?_eq_some_iff.mp hg).1
  obtain ⟨e1, e2, e3⟩ := h39 (4 * q + j) (by omega)
  show τ.2.1 39 0 (4 * q + j) = _ ∧ τ.2.2.1 40 0 (4 * q + j) = _ ∧ τ.2.2.1 41 0 (4 * q + j) = _
  rw [e1, e2, e3]
  exact h.2 j g hg
theorem mA_pt {n s p : Nat} {gs : List Fm} {now lat : Nat} {ts : List Tp} {line : List Nat} {dl : Nat → Nat} {dr : Nat → List FV} {pt : Nat → Nat → List Fm} {la : Nat → Int32} {jo : Nat → Nat} {tk : Nat → Bool} {fn : Nat → Fq} {os : List Od} {σ τ : J} (h : mA n σ (now, lat, ts, line, dl, dr, pt, la, jo, tk, fn, os)) (hw : wfA n (now, lat, ts, line, dl, dr, pt, la, jo, tk, fn, os)) (hs : s < n) (hp : p < 3) (hf : mf (fun k => 38 ≤ k ∧ k ≤ 41) (fun _ => False) σ τ) (hG : mG τ (3 * s + p) gs) (h38 : ∀ y, y ≠ 3 * s + p → τ.2.1 38 0 y = σ.2.1 38 0 y) (h39 : ∀ y, (y < 4 * (3 * s + p) ∨ 4 * (3 * s + p) + 4 ≤ y) → τ.2.1 39 0 y = σ.2.1 39 0 y ∧ τ.2.2.1 40 0 y = σ.2.2.1 40 0 y ∧ τ.2.2.1 41 0 y = σ.2.2.1 41 0 y) : mA n τ (now, lat, ts, line, dl, dr, va_up pt s (va_up (pt s) p gs), la, jo, tk, fn, os) := by
  obtain ⟨h1, h2, h3, h4, h5, h6, h7, h8, h9, h10, h11, h12, h13⟩ := h
  obtain ⟨w1, w2, w3, w4, w5, w6, w7, w8, w9, w10, w11, w12, w13⟩ := hw
  refine ⟨by rw [hf.2 13 (fun q => q)]; exact h1, by rw [hf.2 3 (fun q => q)]; exact h2, by rw [hf.2 2 (fun q => q)]; exact h3, h4.fr hf (fun k _ _ => by omega) (fun q => q), h5.fr hf (by omega) (fun q => q), fun q hq => by rw [(hf.1 34 (by omega)).1]; exact h6 q hq, fun q hq => by rw [(hf.1 35 (by omega)).1, (hf.1 36 (by omega)).1, (hf.1 37 (by omega)).2]; exact h7 q hq, fun q r hq hr => ?_, fun q hq => by rw [(hf.1 45 (by omega)).1]; exact h9 q hq, fun q hq => by rw [(hf.1 43 (by omega)).1, (hf.1 44 (by omega)).1]; exact h10 q hq, fun q hq => (h11 q hq).fr hf (by omega) (by omega) (by omega), ?_, fun v hv => by rw [(hf.1 52 (by omega)).1]; exact h13 v hv⟩
  · unfold va_up
    by_cases e : q = s
    · subst e
      rw [if_pos rfl]
      by_cases e2 : r = p
      · subst e2
        rw [if_pos rfl]; exact hG
      · rw [if_neg e2]
        exact mG_o (h8 q r hq hr) (by omega) (w6 q r hq hr).1 h38 h39
    · rw [if_neg e]
      exact mG_o (h8 q r hq hr) (by omega) (w6 q r hq hr).1 h38 h39
  · refine ⟨by rw [hf.2 30 (fun q => q)]; exact h12.1, fun j o ho => ?_, by rw [(hf.1 49 (by omega)).1, (hf.1 51 (by omega)).1]; exact h12.2.2⟩
    have := h12.2.1 j o ho
    unfold mO at this ⊢
    rw [(hf.1 49 (by omega)).1, (hf.1 50 (by omega)).1, (hf.1 51 (by omega)).1]
    exact ⟨mG_o this.1 (by omega) (w9 o (List.mem_of_getElem? ho)).1.1 h38 h39, this.2⟩
theorem vL_at {f : Nat → Int64} {k : Nat} {x : Int64} : vp_updL f k x k = x := if_pos rfl
theorem vL_ne {f : Nat → Int64} {k j : Nat} {x : Int64} (h : j ≠ k) : vp_updL f k x j = f j := if_neg h
theorem b_dr {α : Type} {l : List α} : (i l.length = i 0) → l.length < 2147483648 → l = [] := fun h h2 => by
  rw [i_eq h2 (by decide)] at h
  exact List.eq_nil_of_length_eq_zero h
theorem M_forget_18 {n f : Nat} {x w : Int32} {r : Bool} {a : Sq} {σ : J} (hA : mA n σ a) (hw : wfA n a) (hf : 10 ≤ f) (hr : r = decide (w = im ∨ (0 ≤ w ∧ w < 3))) : wp (M_forget_b18 n f x w x (b01 r) σ) (fun q => mR id (o_forget n x w a).1 q ∧ mA n q.2 (o_forget n x w a).2) := by
  obtain ⟨now, lat, ts, line, dl, dr, pt, la, jo, tk, fn, os⟩ := a
  have hw' := hw
  obtain ⟨w1, w2, w3, w4, w5, w6, w7, w8, w9, w10, w11, w12, w13⟩ := hw'
  unfold M_forget_b18 M_forget_b56 M_forget_b82 o_forget
  simp only [bs_eq]
  refine wp_e (M_first_a hA hw hf) ?_
  cases hfi : a_first n line x with
  | inr e =>
    have he := e12 (first_e hfi)
    refine wp_ite (fun h => absurd h (show ¬ i e ≤ 0 from i_nle0 he)) (fun _ => ?_)
    exact wp_s ⟨rfl, mA_code hA⟩
  | inl s =>
    obtain ⟨hs, hxs, -⟩ := first_i w13 hfi
    have his : q_in x 4 = true := by rw [hxs, i_in (by omega)]; omega
    have hxn : x.toNatClampNeg = s := by rw [hxs, i_n (by omega)]
    have hA2 := mA_code (v := i 0) hA
    dsimp only
    by_cases h1 : w = im
    · rw [hr, decide_eq_true (Or.inl h1), if_pos h1]
      refine wp_ite (fun _ => ?_) (fun h => absurd (show i 0 ≤ 0 by decide) h)
      have hn0 : ¬ 0 ≤ w := by rw [h1]; decide
      refine wp_ite (fun h => absurd h (hn0)) (fun _ => ?_)
      refine wp_ite (fun _ => ?_) (fun h => absurd (his) h)
      refine wp_ite (fun h => absurd h (hn0)) (fun _ => ?_)
      refine wp_ite (fun _ => ?_) (fun h => absurd (his) h)
      show wp (some (σ.2.1 35 0 x.toNatClampNeg, q_sA (q_sI σ 24 0 0 (i 0)) 35 0 (upd (σ.2.1 35 0) x.toNatClampNeg 0))) _
      rw [hxn]
      have hf : mf (fun k => 35 ≤ k ∧ k ≤ 35) (fun _ => False) (q_sI σ 24 0 0 (i 0)) (q_sA (q_sI σ 24 0 0 (i 0)) 35 0 (upd (σ.2.1 35 0) s 0)) := mf.rf.sA (by omega)
      refine wp_s ⟨⟨(hA.2.2.2.2.2.2.1 s hs).1, rfl⟩, ?_⟩
      obtain ⟨h1, h2, h3, h4, h5, h6, h7, h8, h9, h10, h11, h12, h13⟩ := hA2
      refine ⟨h1, h2, h3, h4.fr hf (fun k _ _ => by omega) (fun q => q), h5.fr hf (by omega) (fun q => q), fun q hq => by rw [(hf.1 34 (by omega)).1]; exact h6 q hq, fun q hq => ?_, fun q p hq hp => (h8 q p hq hp).fr hf (fun k _ _ => (by omega)), fun q hq => by rw [(hf.1 45 (by omega)).1]; exact h9 q hq, fun q hq => by rw [(hf.1 43 (by omega)).1, (hf.1 44 (by omega)).1]; exact h10 q hq, fun q hq => (h11 q hq).fr hf (by omega) (by omega) (by omega), h12.fr hf (fun k _ _ => by omega) (by omega) (by omega) (by omega) (fun q => q), fun v hv => by rw [(hf.1 52 (by omega)).1]; exact h13 v hv⟩
      have hq7 := hA.2.2.2.2.2.2.1 q hq
      unfold va_up
      by_cases e : q = s
      · subst e
        rw [if_pos rfl]
        exact ⟨upd_at, fun j y hy => by cases hy⟩
      · rw [if_neg e]
        exact ⟨(upd_ne e).trans hq7.1, hq7.2⟩
    · rw [if_neg h1]
      by_cases h2 : 0 ≤ w ∧ w < 3
      · rw [hr, decide_eq_true (Or.inr h2), if_pos h2]
        obtain ⟨m, hm, e3, e4⟩ := p3_i h2.1 h2.2
        refine wp_ite (fun _ => ?_) (fun h => absurd (show i 0 ≤ 0 by decide) h)
        refine wp_ite (fun _ => ?_) (fun h => absurd (h2.1) h)
        have he : 3 * x + w = i (3 * s + m) := by rw [hxs, e3, l3, i_mul, i_add]
        refine wp_ite (fun _ => ?_) (fun h => absurd (show q_in (3 * x + w) 18 = true by rw [he, i_in (by omega)]; omega) h)
        refine wp_ite (fun _ => ?_) (fun h => absurd (h2.1) h)
        refine wp_ite (fun _ => ?_) (fun h => absurd (show q_in (3 * x + w) 18 = true by rw [he, i_in (by omega)]; omega) h)
        show wp (some (σ.2.1 38 0 (3 * x + w).toNatClampNeg, q_sA (q_sI σ 24 0 0 (i 0)) 38 0 (upd (σ.2.1 38 0) (3 * x + w).toNatClampNeg 0))) _
        rw [he, i_n (by omega), e4]
        exact wp_s ⟨⟨(hA.2.2.2.2.2.2.2.1 s m hs hm).1, rfl⟩, mA_pt hA2 hw hs hm (mf.rf.sA (by omega)) ⟨upd_at, fun j y hy => by cases hy⟩ (fun y hy => upd_ne hy) (fun y _ => ⟨rfl, rfl, rfl⟩)⟩
      · rw [hr, decide_eq_false (fun q => q.elim h1 h2), if_neg h2]
        refine wp_ite (fun h => absurd h (show ¬ i 3 ≤ 0 by decide)) (fun _ => ?_)
        exact wp_s ⟨rfl, hA2⟩
theorem M_forget_s {n f : Nat} {x w : Int32} {a : Sq} {σ : J} (hA : mA n σ a) (hw : wfA n a) (hf : 10 ≤ f) : wp (M_forget n f x w σ) (fun q => mR id (o_forget n x w a).1 q ∧ mA n q.2 (o_forget n x w a).2) := by
  unfold M_forget M_forget_b0 M_forget_b17
  have e0 : (-1 : Int32).toInt = -1 := rfl
  have e1 : (0 : Int32).toInt = 0 := rfl
  have e2 : (3 : Int32).toInt = 3 := rfl
  have hm : (w = im) = (w.toInt = -1) := propext ⟨fun h => by rw [h]; rfl, fun h => Int32.toInt_inj.mp h⟩
  refine wp_ite (fun h => ?_) (fun h => wp_ite (fun h2 => ?_) (fun h2 => ?_))
  · refine M_forget_18 (r := false) hA hw hf (decide_eq_false ?_).symm
    rw [hm, Int32.le_iff_toInt_le, Int32.lt_iff_toInt_lt]
    rw [Int32.lt_iff_toInt_lt] at h
    omega
  · refine M_forget_18 (r := false) hA hw hf (decide_eq_false ?_).symm
    rw [hm, Int32.le_iff_toInt_le, Int32.lt_iff_toInt_lt]
    rw [Int32.le_iff_toInt_le] at h2
    omega
  · refine M_forget_18 (r := true) hA hw hf (decide_eq_true ?_).symm
    rw [hm, Int32.le_iff_toInt_le, Int32.lt_iff_toInt_lt]
    rw [Int32.le_iff_toInt_le] at h2
    rw [Int32.lt_iff_toInt_lt] at h
    omega
theorem M_form_103 {n f : Nat} {x p c : Int32} {va vb : Int64} {r : Bool} {a : Sq} {σ : J} (hA : mA n σ a) (hw : wfA n a) (hf : 10 ≤ f) (hr : r = decide (0 ≤ p ∧ p < 3 ∧ a_isForm c va = true)) : wp (M_form_b103 n f x p c va vb (b01 r) σ) (fun q => mR id (o_form n x p c va vb a).1 q ∧ mA n q.2 (o_form n x p c va vb a).2) := by
  obtain ⟨now, lat, ts, line, dl, dr, pt, la, jo, tk, fn, os⟩ := a
  have hw' := hw
  obtain ⟨w1, w2, w3, w4, w5, w6, w7, w8, w9, w10, w11, w12, w13⟩ := hw'
  unfold M_form_b103 M_form_b142 M_form_b146 o_form
  simp only [bs_eq]
  refine wp_e (M_first_a hA hw hf) ?_
  cases hfi : a_first n line x with
  | inr e =>
    have he := e12 (first_e hfi)
    refine wp_ite (fun h => absurd h (show ¬ i e = 0 from i_ne0 he)) (fun _ => ?_)
    refine wp_ite (fun h => absurd h (show ¬ i e ≤ 0 from i_nle0 he)) (fun _ => ?_)
    exact wp_s ⟨rfl, mA_code (mA_code hA)⟩
  | inl s =>
    obtain ⟨hs, hxs, -⟩ := first_i w13 hfi
    dsimp only
    by_cases h2 : 0 ≤ p ∧ p < 3 ∧ a_isForm c va = true
    · rw [hr, decide_eq_true h2, if_pos h2]
      obtain ⟨m, hm, e3, e4⟩ := p3_i h2.1 h2.2.1
      have he : 3 * x + p = i (3 * s + m) := by rw [hxs, e3, l3, i_mul, i_add]
      have h18 : q_in (3 * x + p) 18 = true := by rw [he, i_in (by omega)]; omega
      have hen : (3 * x + p).toNatClampNeg = 3 * s + m := by rw [he, i_n (by omega)]
      have hl4 := (w6 s m hs hm).1
      have hG := hA.2.2.2.2.2.2.2.1 s m hs hm
      have hG1 : σ.2.1 38 0 (3 * s + m) = i (pt s m).length := hG.1
      rw [e4]
      refine wp_ite (fun _ => ?_) (fun h => absurd (show i 0 = 0 from rfl) h)
      refine wp_ite (fun _ => ?_) (fun h => absurd (h18) h)
      by_cases h4 : (pt s m).length < 4
      · rw [if_pos h4]
        refine wp_ite (fun h => absurd h (show ¬ σ.2.1 38 0 (3 * x + p).toNatClampNeg = 4 from by rw [hen, hG1, l4, i_eq (by omega) (by decide)]; omega)) (fun _ => ?_)
        refine wp_ite (fun _ => ?_) (fun h => absurd (show i 0 ≤ 0 by decide) h)
        refine wp_ite (fun _ => ?_) (fun h => absurd (h18) h)
        have hx : 4 * (3 * x + p) + σ.2.1 38 0 (3 * x + p).toNatClampNeg = i (4 * (3 * s + m) + (pt s m).length) := by rw [hen, hG1, he, l4, i_mul, i_add]
        have h72 : q_in (4 * (3 * x + p) + σ.2.1 38 0 (3 * x + p).toNatClampNeg) 72 = true := by rw [hx, i_in (by omega)]; omega
        have hn : (4 * (3 * x + p) + σ.2.1 38 0 (3 * x + p).toNatClampNeg).toNatClampNeg = 4 * (3 * s + m) + (pt s m).length := by rw [hx, i_n (by omega)]
        refine wp_ite (fun _ => ?_) (fun h => absurd (h72) h)
        refine wp_ite (fun _ => ?_) (fun h => absurd (h72) h)
        refine wp_ite (fun _ => ?_) (fun h => absurd (h72) h)
        refine wp_ite (fun _ => ?_) (fun h => absurd (h18) h)
        refine wp_ite (fun _ => ?_) (fun h => absurd (h18) h)
        refine wp_ite (fun _ => ?_) (fun h => absurd (h18) h)
        show wp (some (upd (σ.2.1 38 0) (3 * x + p).toNatClampNeg (σ.2.1 38 0 (3 * x + p).toNatClampNeg + 1) (3 * x + p).toNatClampNeg, q_sA (q_sL (q_sL (q_sA (q_sI (q_sI σ 24 0 0 (i 0)) 24 0 0 (i 0)) 39 0 (upd (σ.2.1 39 0) (4 * (3 * x + p) + σ.2.1 38 0 (3 * x + p).toNatClampNeg).toNatClampNeg c)) 40 0 (vp_updL (σ.2.2.1 40 0) (4 * (3 * x + p) + σ.2.1 38 0 (3 * x + p).toNatClampNeg).toNatClampNeg va)) 41 0 (vp_updL (σ.2.2.1 41 0) (4 * (3 * x + p) + σ.2.1 38 0 (3 * x + p).toNatClampNeg).toNatClampNeg vb)) 38 0 (upd (σ.2.1 38 0) (3 * x + p).toNatClampNeg (σ.2.1 38 0 (3 * x + p).toNatClampNeg + 1)))) _
        rw [hn, hen, hG1, l1, i_add]
        refine wp_s ⟨⟨upd_at, rfl⟩, mA_pt (mA_code (v := i 0) (mA_code (v := i 0) hA)) hw hs hm ((((mf.rf.sA (by omega)).sL (by omega)).sL (by omega)).sA (by omega)) ⟨?_, fun j y hy => ?_⟩ (fun y hy => upd_ne hy) (fun y hy => ⟨upd_ne (by omega), vL_ne (by omega), vL_ne (by omega)⟩)⟩
        · rw [List.length_append]; exact upd_at
        · show upd (σ.2.1 39 0) (4 * (3 * s + m) + (pt s m).length) c (4 * (3 * s + m) + j) = _ ∧ vp_updL (σ.2.2.1 40 0) (4 * (3 * s + m) + (pt s m).length) va (4 * (3 * s + m) + j) = _ ∧ vp_updL (σ.2.2.1 41 0) (4 * (3 * s + m) + (pt s m).length) vb (4 * (3 * s + m) + j) = _
          by_cases ej : j = (pt s m).length
          · subst ej
            rw [List.getElem?_append_right (Nat.le_refl _), Nat.sub_self] at hy
            cases hy
            exact ⟨upd_at, vL_at, vL_at⟩
          · have hjl := (List.getElem?_eq_some_iff.mp hy).1
            rw [List.length_append] at hjl
            replace hjl : j < (pt s m).length + 1 := hjl
            rw [List.getElem?_append_left (by omega)] at hy
            rw [upd_ne (by omega), vL_ne (by omega), vL_ne (by omega)]
            exact hG.2 j y hy
      · rw [if_neg h4]
        refine wp_ite (fun _ => ?_) (fun h => absurd (show σ.2.1 38 0 (3 * x + p).toNatClampNeg = 4 from by rw [hen, hG1, l4, i_eq (by omega) (by decide)]; omega) h)
        refine wp_ite (fun h => absurd h (show ¬ i 4 ≤ 0 by decide)) (fun _ => ?_)
        exact wp_s ⟨rfl, mA_code (mA_code hA)⟩
    · rw [hr, decide_eq_false h2, if_neg h2]
      refine wp_ite (fun h => absurd h (show ¬ i 3 = 0 by decide)) (fun _ => ?_)
      refine wp_ite (fun h => absurd h (show ¬ i 3 ≤ 0 by decide)) (fun _ => ?_)
      exact wp_s ⟨rfl, mA_code (mA_code hA)⟩
theorem i64_lt {a : Int64} {m k : Nat} (hk : m + 1 = k) (h : k ≤ 10) : (!decide (Int64.ofNat m < a)) = decide (a < Int64.ofNat k) := by
  have a2 : (Int64.ofNat m).toInt = m := Int64.toInt_ofNat_of_lt (by omega)
  have a3 : (Int64.ofNat k).toInt = k := Int64.toInt_ofNat_of_lt (by omega)
  by_cases q : Int64.ofNat m < a
  · rw [decide_eq_true q, decide_eq_false]
    · rfl
    · rw [Int64.lt_iff_toInt_lt] at q ⊢; omega
  · rw [decide_eq_false q, decide_eq_true]
    · rfl
    · rw [Int64.lt_iff_toInt_lt] at q ⊢; omega
theorem M_form_26 {n f : Nat} {x p c s0 : Int32} {va vb : Int64} {a : Sq} {σ : J} (hA : mA n σ a) (hw : wfA n a) (hf : 10 ≤ f) (h0 : (s0 = 1 ∧ (c = 1 ∨ c = 2 ∨ c = 3 ∨ c = 9)) ∨ (s0 = 0 ∧ ¬ c = 1 ∧ ¬ c = 2 ∧ ¬ c = 3 ∧ ¬ c = 9)) : wp (M_form_b26 n f x p c va vb s0 σ) (fun q => mR id (o_form n x p c va vb a).1 q ∧ mA n q.2 (o_form n x p c va vb a).2) := by
  have F := fun r hr => M_form_103 (n := n) (f := f) (x := x) (p := p) (c := c) (va := va) (vb := vb) (r := r) (σ := σ) hA hw hf hr
  unfold M_form_b26 M_form_b66 M_form_b83 M_form_b98 M_form_b102
  refine wp_e (M_within_s.trans (congrArg (fun b => some (b01 b, σ)) (within_i (m := 2) (by decide)))) ?_
  rw [b2]
  have hp3 : (p ≤ i 2) = (p < 3) := propext (by rw [Int32.le_iff_toInt_le, Int32.lt_iff_toInt_lt, i_t (by decide)]; have : (3 : Int32).toInt = 3 := rfl; omega)
  by_cases h1 : 0 ≤ p ∧ p ≤ i 2
  · rw [decide_eq_true h1]
    have h1b : 0 ≤ p ∧ p < 3 := ⟨h1.1, hp3 ▸ h1.2⟩
    have hdec : ∀ {r : Bool}, r = a_isForm c va → r = decide (0 ≤ p ∧ p < 3 ∧ a_isForm c va = true) := fun {r} q => by
      rw [q]
      cases a_isForm c va with
      | true => exact (decide_eq_true ⟨h1b.1, h1b.2, rfl⟩).symm
      | false => exact (decide_eq_false (fun q => by cases q.2.2)).symm
    refine wp_ite (fun h => absurd h (show ¬ b01 true = 0 by decide)) (fun _ => ?_)
    refine wp_e (M_within_s.trans (congrArg (fun b => some (b01 b, σ)) (within_i (m := 9) (by decide)))) ?_
    rw [b2]
    by_cases h2 : 0 ≤ c ∧ c ≤ i 9
    · rw [decide_eq_true h2]
      refine wp_ite (fun h => absurd h (show ¬ b01 true = 0 by decide)) (fun _ => ?_)
      dsimp only
      rcases h0 with ⟨rfl, hc⟩ | ⟨rfl, hc⟩
      · refine wp_ite (fun h => absurd h (show ¬ (1 : Int32) = 0 by decide)) (fun _ => ?_)
        have hform : a_isForm c va = (!decide (va < 0) && !decide (2 < va)) := by rcases hc with q | q | q | q <;> rw [q] <;> rfl
        have hc7 : ¬ c = 7 := by rcases hc with q | q | q | q <;> rw [q] <;> decide
        have hc8 : ¬ c = 8 := by rcases hc with q | q | q | q <;> rw [q] <;> decide
        refine wp_e M_within_s ?_
        rw [← hform]
        cases hfm : a_isForm c va with
        | false =>
          refine wp_ite (fun _ => ?_) (fun h => absurd (show b01 false = 0 from rfl) h)
          exact F false (hdec hfm.symm)
        | true =>
          refine wp_ite (fun h => absurd h (show ¬ b01 true = 0 by decide)) (fun _ => ?_)
          refine wp_ite (fun h => absurd h (hc7)) (fun _ => ?_)
          refine wp_ite (fun h => absurd h (hc8)) (fun _ => ?_)
          exact F true (hdec hfm.symm)
      · refine wp_ite (fun _ => ?_) (fun h => absurd (show (0 : Int32) = 0 from rfl) h)
        by_cases hc7 : c = 7
        · refine wp_ite (fun _ => ?_) (fun h => absurd (hc7) h)
          refine wp_e M_within_s ?_
          have hform : a_isForm c va = (!decide (va < 0) && !decide (3 < va)) := by
            rw [hc7]
            show (!decide (va < 0) && decide (va < 4)) = _
            rw [show (!decide ((3 : Int64) < va)) = decide (va < 4) from i64_lt (m := 3) (k := 4) rfl (by decide)]
          rw [← hform]
          cases hfm : a_isForm c va with
          | false =>
            refine wp_ite (fun _ => ?_) (fun h => absurd (show b01 false = 0 from rfl) h)
            exact F false (hdec hfm.symm)
          | true =>
            refine wp_ite (fun h => absurd h (show ¬ b01 true = 0 by decide)) (fun _ => ?_)
            refine wp_ite (fun h => absurd h (show ¬ c = 8 by rw [hc7]; decide)) (fun _ => ?_)
            exact F true (hdec hfm.symm)
        · refine wp_ite (fun h => absurd h (hc7)) (fun _ => ?_)
          by_cases hc8 : c = 8
          · refine wp_ite (fun _ => ?_) (fun h => absurd (hc8) h)
            refine wp_e M_within_s ?_
            have hform : a_isForm c va = (!decide (va < 0) && !decide (1 < va)) := by
              rw [hc8]
              show (!decide (va < 0) && decide (va < 2)) = _
              rw [show (!decide ((1 : Int64) < va)) = decide (va < 2) from i64_lt (m := 1) (k := 2) rfl (by decide)]
            rw [← hform]
            cases hfm : a_isForm c va with
            | false =>
              refine wp_ite (fun _ => ?_) (fun h => absurd (show b01 false = 0 from rfl) h)
              exact F false (hdec hfm.symm)
            | true =>
              refine wp_ite (fun h => absurd h (show ¬ b01 true = 0 by decide)) (fun _ => ?_)
              exact F true (hdec hfm.symm)
          · refine wp_ite (fun h => absurd h (hc8)) (fun _ => ?_)
            refine F true (hdec ?_)
            rw [isForm_d hc.1 hc.2.1 hc.2.2.1 hc7 hc8 hc.2.2.2, b2]
            exact (decide_eq_true h2).symm
    · rw [decide_eq_false h2]
      refine wp_ite (fun _ => ?_) (fun h => absurd (show b01 false = 0 from rfl) h)
      refine F false (hdec ?_)
      cases hfm : a_isForm c va with
      | false => rfl
      | true =>
        obtain ⟨⟨k, hk, e⟩, -⟩ := isForm_ok (b := vb) hfm
        replace e : c = i k := e
        refine absurd ⟨?_, ?_⟩ h2
        · rw [e, l0, i_le (by decide) (by omega)]; omega
        · rw [e, i_le (by omega) (by decide)]; omega
  · rw [decide_eq_false h1]
    refine wp_ite (fun _ => ?_) (fun h => absurd (show b01 false = 0 from rfl) h)
    exact F false (decide_eq_false (fun q => h1 ⟨q.1, hp3 ▸ q.2.1⟩)).symm
theorem M_form_s {n f : Nat} {x p c : Int32} {va vb : Int64} {a : Sq} {σ : J} (hA : mA n σ a) (hw : wfA n a) (hf : 10 ≤ f) : wp (M_form n f x p c va vb σ) (fun q => mR id (o_form n x p c va vb a).1 q ∧ mA n q.2 (o_form n x p c va vb a).2) := by
  unfold M_form M_form_b0 M_form_b21
  refine wp_ite (fun h => M_form_26 hA hw hf (Or.inl ⟨rfl, Or.inl h⟩)) (fun h1 => ?_)
  refine wp_ite (fun h => M_form_26 hA hw hf (Or.inl ⟨rfl, Or.inr (Or.inl h)⟩)) (fun h2 => ?_)
  refine wp_ite (fun h => M_form_26 hA hw hf (Or.inl ⟨rfl, Or.inr (Or.inr (Or.inl h))⟩)) (fun h3 => ?_)
  refine wp_ite (fun h => M_form_26 hA hw hf (Or.inl ⟨rfl, Or.inr (Or.inr (Or.inr h))⟩)) (fun h9 => ?_)
  exact M_form_26 hA hw hf (Or.inr ⟨rfl, h1, h2, h3, h9⟩)
theorem mA_27 {n j : Nat} {t : Tp} {e : Int32} {now lat : Nat} {ts : List Tp} {line : List Nat} {dl : Nat → Nat} {dr : Nat → List FV} {pt : Nat → Nat → List Fm} {la : Nat → Int32} {jo : Nat → Nat} {tk : Nat → Bool} {fn : Nat → Fq} {os : List Od} {σ : J} (h : mA n σ (now, lat, ts, line, dl, dr, pt, la, jo, tk, fn, os)) (ht : ts[j]? = some t) : mA n (q_sA σ 27 0 (upd (σ.2.1 27 0) j e)) (now, lat, ts.set j (t_setE t e), line, dl, dr, pt, la, jo, tk, fn, os) := by
  have hf : mf (fun k => k = 27) (fun _ => False) σ (q_sA σ 27 0 (upd (σ.2.1 27 0) j e)) := mf.rf.sA rfl
  obtain ⟨h1, h2, h3, h4, h5, h6, h7, h8, h9, h10, h11, h12, h13⟩ := h
  refine ⟨h1, h2, h3, mB_set h4 (List.getElem?_eq_some_iff.mp ht).1 rfl ?_ ?_, h5.fr hf (by omega) (fun q => q), fun q hq => by rw [(hf.1 34 (by omega)).1]; exact h6 q hq, fun q hq => by rw [(hf.1 35 (by omega)).1, (hf.1 36 (by omega)).1, (hf.1 37 (by omega)).2]; exact h7 q hq, fun q p hq hp => (h8 q p hq hp).fr hf (fun k _ _ => (by omega)), fun q hq => by rw [(hf.1 45 (by omega)).1]; exact h9 q hq, fun q hq => by rw [(hf.1 43 (by omega)).1, (hf.1 44 (by omega)).1]; exact h10 q hq, fun q hq => (h11 q hq).fr hf (by omega) (by omega) (by omega), h12.fr hf (fun k _ _ => by omega) (by omega) (by omega) (by omega) (fun q => q), fun v hv => by rw [(hf.1 52 (by omega)).1]; exact h13 v hv⟩
  · obtain ⟨g1, g2, g3⟩ := h4.2.2 j t ht
    exact ⟨g1, upd_at, g3⟩
  · intro q u hq hu hT
    obtain ⟨g1, g2, g3⟩ := hT
    exact ⟨g1, (upd_ne hq).trans g2, g3⟩
theorem M_renew_s {n f : Nat} {x m y : Int32} {a : Sq} {σ : J} (hA : mA n σ a) (hw : wfA n a) (hf : 30 ≤ f) : wp (M_renew n f x m y σ) (fun q => mR id (o_renew n x m y a).1 q ∧ mA n q.2 (o_renew n x m y a).2) := by
  obtain ⟨now, lat, ts, line, dl, dr, pt, la, jo, tk, fn, os⟩ := a
  have hw' := hw
  obtain ⟨w1, w2, w3, w4, w5, w6, w7, w8, w9, w10, w11, w12, w13⟩ := hw'
  unfold M_renew M_renew_b0 M_renew_b48 M_renew_b70 o_renew
  simp only [bs_eq, and1_0, and1_1, if_true]
  refine wp_e (M_within_s.trans (congrArg (fun b => some (b01 b, σ)) (within_i (m := 1000) (by decide)))) ?_
  refine wp_e (M_first_a (r := a_span y) hA hw (by omega)) ?_
  have hA2 : ∀ v, mA n (q_sI σ 24 0 0 v) (now, lat, ts, line, dl, dr, pt, la, jo, tk, fn, os) := fun v => mA_code hA
  cases hfi : a_first n line x with
  | inr e =>
    have he := e12 (first_e hfi)
    refine wp_ite (fun h => absurd h (show ¬ i e ≤ 0 from i_nle0 he)) (fun _ => ?_)
    exact wp_s ⟨rfl, mA_code hA⟩
  | inl s =>
    obtain ⟨hs, hxs, -⟩ := first_i w13 hfi
    dsimp only
    cases hsp : a_span y with
    | false =>
      rw [if_neg (show ¬ false = true by decide)]
      refine wp_ite (fun h => absurd h (show ¬ i 3 ≤ 0 by decide)) (fun _ => ?_)
      exact wp_s ⟨rfl, mA_code hA⟩
    | true =>
      rw [if_pos rfl]
      refine wp_ite (fun _ => ?_) (fun h => absurd (show i 0 ≤ 0 by decide) h)
      have hB := (hA2 (i 0)).2.2.2.1
      have h20 := hB.2.1
      refine wp_e (M_place_s hB w1.1 hf) ?_
      rcases find_idx (N := m) w1.1 with ⟨e1, e2⟩ | ⟨pre, t, post, e1, e2, e3, e4⟩
      · rw [e1, e2]
        refine wp_ite (fun _ => ?_) (fun h => absurd (show a_idx none < 0 by decide) h)
        exact wp_s ⟨⟨rfl, rfl⟩, hA2 _⟩
      · rw [e3, e4]
        have hpl : pre.length < ts.length := by rw [e1, List.length_append, List.length_cons]; omega
        have hg : ts[pre.length]? = some t := by rw [e1]; exact get_mid
        have hT := hB.2.2 pre.length t hg
        have hin : q_in (i pre.length) 20 = true := by rw [i_in (by omega)]; omega
        show wp (if i pre.length < 0 then _ else _) _
        refine wp_ite (fun h => absurd h (show ¬ i pre.length < 0 by rw [l0, i_lt (by omega) (by decide)]; omega)) (fun _ => ?_)
        have hx : a_idx (some pre.length) = i pre.length := rfl
        rw [hx, hxs]
        refine wp_e (M_sees_s hT (by omega) ((w1.2 t (List.mem_of_getElem? hg)).m w4) w13) ?_
        dsimp only
        cases hse : a_sees (i s) t with
        | false =>
          rw [if_neg (show ¬ false = true by decide)]
          refine wp_ite (fun _ => ?_) (fun h => absurd (show b01 false = 0 from rfl) h)
          exact wp_s ⟨⟨rfl, rfl⟩, hA2 _⟩
        | true =>
          rw [if_pos rfl]
          refine wp_ite (fun h => absurd h (show ¬ b01 true = 0 by decide)) (fun _ => ?_)
          have hnd := w1.1
          rw [e1] at hnd
          have hmap : ts.map (fun t => if t_num t = m then t_setE t (a_lease now y) else t) = ts.set pre.length (t_setE t (a_lease now y)) := by rw [e1, map_mid (g := fun t => t_setE t (a_lease now y)) hnd e2, set_mid]
          have hfin : ∀ v, v = a_lease now y → wp (some ((1 : Int32), q_sA (q_sI σ 24 0 0 (i 0)) 27 0 (upd (σ.2.1 27 0) pre.length v))) (fun q => mR id (.inl (i 1)) q ∧ mA n q.2 (now, lat, ts.map (fun t => if t_num t = m then t_setE t (a_lease now y) else t), line, dl, dr, pt, la, jo, tk, fn, os)) := by
            intro v hv
            rw [hv, hmap]
            exact wp_s ⟨⟨rfl, rfl⟩, mA_27 (hA2 (i 0)) hg⟩
          obtain ⟨k, hk, hyk⟩ := span_i hsp
          by_cases hy : y = 0
          · refine wp_ite (fun _ => ?_) (fun h => absurd (hy) h)
            refine wp_ite (fun _ => ?_) (fun h => absurd (hin) h)
            rw [i_n (by omega)]
            exact hfin 0 (by unfold a_lease; rw [if_pos hy]; rfl)
          · refine wp_ite (fun h => absurd h (hy)) (fun _ => ?_)
            refine wp_ite (fun _ => ?_) (fun h => absurd (hin) h)
            rw [i_n (by omega)]
            refine hfin _ ?_
            show σ.1 24 3 0 + y = _
            unfold a_lease
            rw [if_neg hy, hA.2.1, hyk, i_add, i_n (by omega)]
theorem M_put_36 {n f : Nat} {x y : Int32} {r : Bool} {now lat : Nat} {ts : List Tp} {line : List Nat} {dl : Nat → Nat} {dr : Nat → List FV} {pt : Nat → Nat → List Fm} {la : Nat → Int32} {jo : Nat → Nat} {tk : Nat → Bool} {fn : Nat → Fq} {os : List Od} {σ : J} (hA : mA n σ (now, lat, ts, line, dl, dr, pt, la, jo, tk, fn, os)) (hw : wfA n (now, lat, ts, line, dl, dr, pt, la, jo, tk, fn, os)) (hl : lat < 1000) (hf : 18500 ≤ f) (hr : ∀ s, a_first n line x = .inl s → r = decide (dr s ≠ [] ∧ a_span y = true)) : wp (M_put_b36 n f x y x (b01 r) σ) (fun q => mR id (o_put n x y (now, lat, ts, line, dl, dr, pt, la, jo, tk, fn, os)).1 q ∧ mA n q.2 (o_put n x y (now, lat, ts, line, dl, dr, pt, la, jo, tk, fn, os)).2) := by
  have hw' := hw
  obtain ⟨w1, w2, w3, w4, w5, w6, w7, w8, w9, w10, w11, w12, w13⟩ := hw'
  unfold M_put_b36 M_put_b63 M_put_b67 M_put_b87 o_put
  simp only [bs_eq]
  refine wp_e (M_first_a hA hw (by omega)) ?_
  cases hfi : a_first n line x with
  | inr e =>
    have he := e12 (first_e hfi)
    refine wp_ite (fun h => absurd h (show ¬ i e = 0 from i_ne0 he)) (fun _ => ?_)
    refine wp_ite (fun h => absurd h (show ¬ i e ≤ 0 from i_nle0 he)) (fun _ => ?_)
    exact wp_s ⟨rfl, mA_code (mA_code hA)⟩
  | inl s =>
    obtain ⟨hs, hxs, -⟩ := first_i w13 hfi
    dsimp only
    rw [hr s hfi]
    by_cases h2 : dr s ≠ [] ∧ a_span y = true
    · rw [decide_eq_true h2, if_pos h2]
      refine wp_ite (fun _ => ?_) (fun h => absurd (show i 0 = 0 from rfl) h)
      have hB := hA.2.2.2.1
      have h20 := hB.2.1
      by_cases h4 : ts.length < 20
      · rw [if_pos h4]
        refine wp_ite (fun h => absurd h (show ¬ σ.1 24 1 0 = 20 by rw [hB.1, l20, i_eq (by omega) (by decide)]; omega)) (fun _ => ?_)
        refine wp_ite (fun _ => ?_) (fun h => absurd (show i 0 ≤ 0 by decide) h)
        rw [hxs]
        refine wp_bind (M_add_s (mA_code (v := i 0) (mA_code (v := i 0) hA)) hw hs h2.2 hl h4 hf) (fun q hq => ?_)
        exact wp_s ⟨⟨hq.1, hq.2.2⟩, hq.2.1⟩
      · rw [if_neg h4]
        refine wp_ite (fun _ => ?_) (fun h => absurd (show σ.1 24 1 0 = 20 by rw [hB.1, l20, i_eq (by omega) (by decide)]; omega) h)
        refine wp_ite (fun h => absurd h (show ¬ i 4 ≤ 0 by decide)) (fun _ => ?_)
        exact wp_s ⟨rfl, mA_code (mA_code hA)⟩
    · rw [decide_eq_false h2, if_neg h2]
      refine wp_ite (fun h => absurd h (show ¬ i 3 = 0 by decide)) (fun _ => ?_)
      refine wp_ite (fun h => absurd h (show ¬ i 3 ≤ 0 by decide)) (fun _ => ?_)
      exact wp_s ⟨rfl, mA_code (mA_code hA)⟩
theorem first_no {n : Nat} {line : List Nat} {x : Int32} (h : a_sess n x = false) : ∀ s, a_first n line x ≠ .inl s := fun s q => by
  unfold a_first at q
  rw [h, if_neg (show ¬ false = true by decide)] at q
  cases q
theorem first_s {n s0 : Nat} {line : List Nat} {x : Int32} (h : x.toNatClampNeg = s0) : ∀ s, a_first n line x = .inl s → s = s0 := fun s q => by
  unfold a_first at q
  split at q
  · split at q
    · cases q
    · cases q; exact h
  · cases q
theorem M_put_s {n f : Nat} {x y : Int32} {a : Sq} {σ : J} (hA : mA n σ a) (hw : wfA n a) (hl : a.2.1 < 1000) (hf : 18500 ≤ f) : wp (M_put n f x y σ) (fun q => mR id (o_put n x y a).1 q ∧ mA n q.2 (o_put n x y a).2) := by
  obtain ⟨now, lat, ts, line, dl, dr, pt, la, jo, tk, fn, os⟩ := a
  have hw' := hw
  obtain ⟨w1, w2, w3, w4, w5, w6, w7, w8, w9, w10, w11, w12, w13⟩ := hw'
  unfold M_put M_put_b0 M_put_b35
  refine wp_e (M_isSession_s hA.1) ?_
  cases h : a_sess n x with
  | false =>
    refine wp_ite (fun _ => ?_) (fun h => absurd (show b01 false = 0 from rfl) h)
    exact M_put_36 (r := false) hA hw hl hf (fun s q => absurd q (first_no h s))
  | true =>
    obtain ⟨s, hs, e1, e2⟩ := sess_i w13 h
    refine wp_ite (fun h => absurd h (show ¬ b01 true = 0 by decide)) (fun _ => ?_)
    have his : q_in x 4 = true := by rw [e1, i_in (by omega)]; omega
    refine wp_ite (fun _ => ?_) (fun h => absurd (his) h)
    have hd : σ.2.1 35 0 x.toNatClampNeg = i (dr s).length := by rw [e2]; exact (hA.2.2.2.2.2.2.1 s hs).1
    have hl4 := (w5 s hs).1
    have hz : (σ.2.1 35 0 x.toNatClampNeg ≤ 0) = (dr s = []) := by
      rw [hd, l0, i_le (by omega) (by decide)]
      exact propext ⟨fun q => List.eq_nil_of_length_eq_zero (by omega), fun q => by rw [q]; exact Nat.le_refl _⟩
    refine wp_ite (fun q => ?_) (fun q => ?_)
    · exact M_put_36 (r := false) hA hw hl hf (fun s1 q1 => by rw [first_s e2 s1 q1]; exact (decide_eq_false (fun q2 => q2.1 (hz ▸ q))).symm)
    · refine wp_e (M_within_s.trans (congrArg (fun b => some (b01 b, σ)) (within_i (m := 1000) (by decide)))) ?_
      have hne : dr s ≠ [] := fun q1 => q (hz ▸ q1)
      rw [show (decide (0 ≤ y) && decide (y ≤ i 1000)) = a_span y from rfl]
      cases hsp : a_span y with
      | false =>
        refine wp_ite (fun _ => ?_) (fun h => absurd (show b01 false = 0 from rfl) h)
        exact M_put_36 (r := false) hA hw hl hf (fun s1 q1 => by rw [first_s e2 s1 q1, hsp]; exact (decide_eq_false (fun q2 => by cases q2.2)).symm)
      | true =>
        refine wp_ite (fun h => absurd h (show ¬ b01 true = 0 by decide)) (fun _ => ?_)
        exact M_put_36 (r := true) hA hw hl hf (fun s1 q1 => by rw [first_s e2 s1 q1, hsp]; exact (decide_eq_true ⟨hne, rfl⟩).symm)
