/-! The reference's calls: field, form, forget, open, stop, order, collect. Ours. -/
/-- what the reference answers, and its code -/
def mR {α : Type} (cd : Nat → Nat) (o : α ⊕ Nat) (q : α × J) : Prop := match o with
  | .inl v => q.1 = v ∧ q.2.1 24 0 0 = i 0
  | .inr e => q.2.1 24 0 0 = i (cd e)
theorem first_e {n : Nat} {line : List Nat} {x : Int32} {e : Nat} (h : a_first n line x = .inr e) : e = 1 ∨ e = 2 := by
  unfold a_first at h
  split at h
  · split at h
    · cases h; exact Or.inr rfl
    · cases h
  · cases h; exact Or.inl rfl
theorem M_first_a {n f : Nat} {x : Int32} {r : Bool} {now lat : Nat} {ts : List Tp} {line : List Nat} {dl : Nat → Nat} {dr : Nat → List FV} {pt : Nat → Nat → List Fm} {la : Nat → Int32} {jo : Nat → Nat} {tk : Nat → Bool} {fn : Nat → Fq} {os : List Od} {σ : J} (hA : mA n σ (now, lat, ts, line, dl, dr, pt, la, jo, tk, fn, os)) (hw : wfA n (now, lat, ts, line, dl, dr, pt, la, jo, tk, fn, os)) (hf : 10 ≤ f) : M_first n f x (b01 r) σ = some (i (mcode (a_first n line x) r), σ) := by
  obtain ⟨w1, w2, w3, w4, w5, w6, w7, w8, w9, w10, w11, w12, w13⟩ := hw
  have := php n line w2 w3
  exact M_first_s w13 hA.1 hA.2.2.2.2.1 (by omega) (fun s hs => by have := w3 s hs; omega) w2 hf
theorem c00 {σ : J} {v : Int32} : (q_sI σ 24 0 0 v).1 24 0 0 = v := rfl
theorem i_ne0 {e : Nat} (h : e = 1 ∨ e = 2 ∨ e = 3 ∨ e = 4) : ¬ i e = 0 := by rcases h with h | h | h | h <;> rw [h] <;> decide
theorem i_nle0 {e : Nat} (h : e = 1 ∨ e = 2 ∨ e = 3 ∨ e = 4) : ¬ i e ≤ 0 := by rcases h with h | h | h | h <;> rw [h] <;> decide
theorem e12 {e : Nat} (h : e = 1 ∨ e = 2) : e = 1 ∨ e = 2 ∨ e = 3 ∨ e = 4 := by omega
theorem wp_t {α : Type} {c : Prop} {d : Decidable c} {x y : Option α} {P : α → Prop} (h : c) (k : wp x P) : wp (@ite _ c d x y) P := by rw [if_pos h]; exact k
theorem wp_f {α : Type} {c : Prop} {d : Decidable c} {x y : Option α} {P : α → Prop} (h : ¬ c) (k : wp y P) : wp (@ite _ c d x y) P := by rw [if_neg h]; exact k
theorem wp_e {α β : Type} {x : Option α} {v : α} {k : α → Option β} {P : β → Prop} (h : x = some v) (hk : wp (k v) P) : wp (x.bind k) P := by rw [h]; exact hk
theorem wp_s {α : Type} {v : α} {P : α → Prop} (h : P v) : wp (some v) P := ⟨v, rfl, h⟩
theorem b2 {p q : Prop} {_ : Decidable p} {_ : Decidable q} : (decide p && decide q) = decide (p ∧ q) := by
  by_cases h1 : p <;> by_cases h2 : q <;> simp [h1, h2]
theorem upd_self {f : Nat → Int32} {k : Nat} {x y : Int32} (h : x = y) : upd f k x k = y := by rw [upd_at]; exact h
theorem M_field_s {n f : Nat} {x k : Int32} {v : Int64} {a : Sq} {σ : J} (hA : mA n σ a) (hw : wfA n a) (hf : 10 ≤ f) : wp (M_field n f x k v σ) (fun q => mR id (o_field n x k v a).1 q ∧ mA n q.2 (o_field n x k v a).2) := by
  obtain ⟨now, lat, ts, line, dl, dr, pt, la, jo, tk, fn, os⟩ := a
  have hw' := hw
  obtain ⟨w1, w2, w3, w4, w5, w6, w7, w8, w9, w10, w11, w12, w13⟩ := hw'
  unfold M_field M_field_b0 M_field_b39 M_field_b43 o_field
  simp only [bs_eq]
  refine wp_e (M_within_s.trans (congrArg (fun b => some (b01 b, σ)) (within_i (m := 2) (by decide)))) ?_
  refine wp_e (M_first_a hA hw hf) ?_
  rw [b2]
  cases hfi : a_first n line x with
  | inr e =>
    have he := e12 (first_e hfi)
    refine wp_ite (fun h => absurd h (show ¬ i e = 0 from i_ne0 he)) (fun _ => ?_)
    refine wp_ite (fun h => absurd h (show ¬ i e ≤ 0 from i_nle0 he)) (fun _ => ?_)
    exact wp_s ⟨rfl, mA_code (mA_code hA)⟩
  | inl s =>
    obtain ⟨hs, hxs, -⟩ := first_i w13 hfi
    have hl4 := (w5 s hs).1
    have his : q_in x 4 = true := by rw [hxs, i_in (by omega)]; omega
    have hxn : x.toNatClampNeg = s := by rw [hxs, i_n (by omega)]
    dsimp only
    by_cases hk : 0 ≤ k ∧ k ≤ 2
    · rw [decide_eq_true (show 0 ≤ k ∧ k ≤ i 2 from hk), if_pos hk]
      refine wp_ite (fun _ => ?_) (fun h => absurd (show i 0 = 0 from rfl) h)
      refine wp_ite (fun _ => ?_) (fun h => absurd (his) h)
      have hF := hA.2.2.2.2.2.2.1 s hs
      have hF1 : σ.2.1 35 0 s = i (dr s).length := hF.1
      by_cases h4 : (dr s).length < 4
      · rw [if_pos h4]
        refine wp_ite (fun h => absurd h (show ¬ σ.2.1 35 0 x.toNatClampNeg = 4 from by rw [hxn, hF1, l4, i_eq (by omega) (by decide)]; omega)) (fun _ => ?_)
        refine wp_ite (fun _ => ?_) (fun h => absurd (show i 0 ≤ 0 by decide) h)
        refine wp_ite (fun _ => ?_) (fun h => absurd (his) h)
        have hx16 : 4 * x + σ.2.1 35 0 x.toNatClampNeg = i (4 * s + (dr s).length) := by rw [hxn, hF1, hxs, l4, i_mul, i_add]
        have h16 : q_in (4 * x + σ.2.1 35 0 x.toNatClampNeg) 16 = true := by rw [hx16, i_in (by omega)]; omega
        have hn16 : (4 * x + σ.2.1 35 0 x.toNatClampNeg).toNatClampNeg = 4 * s + (dr s).length := by rw [hx16, i_n (by omega)]
        refine wp_ite (fun _ => ?_) (fun h => absurd (h16) h)
        refine wp_ite (fun _ => ?_) (fun h => absurd (his) h)
        refine wp_ite (fun _ => ?_) (fun h => absurd (h16) h)
        refine wp_ite (fun _ => ?_) (fun h => absurd (his) h)
        refine wp_ite (fun _ => ?_) (fun h => absurd (his) h)
        refine wp_ite (fun _ => ?_) (fun h => absurd (his) h)
        show wp (some (upd (σ.2.1 35 0) x.toNatClampNeg (σ.2.1 35 0 x.toNatClampNeg + 1) x.toNatClampNeg, q_sA (q_sL (q_sA (q_sI (q_sI σ 24 0 0 (i 0)) 24 0 0 (i 0)) 36 0 (upd (σ.2.1 36 0) (4 * x + σ.2.1 35 0 x.toNatClampNeg).toNatClampNeg k)) 37 0 (vp_updL (σ.2.2.1 37 0) (4 * x + σ.2.1 35 0 x.toNatClampNeg).toNatClampNeg v)) 35 0 (upd (σ.2.1 35 0) x.toNatClampNeg (σ.2.1 35 0 x.toNatClampNeg + 1)))) _
        rw [hn16, hxn, hF1, l1, i_add]
        have hA2 := mA_code (v := i 0) (mA_code (v := i 0) hA)
        have hf : mf (fun k => 35 ≤ k ∧ k ≤ 37) (fun _ => False) (q_sI (q_sI σ 24 0 0 (i 0)) 24 0 0 (i 0)) (q_sA (q_sL (q_sA (q_sI (q_sI σ 24 0 0 (i 0)) 24 0 0 (i 0)) 36 0 (upd (σ.2.1 36 0) (4 * s + (dr s).length) k)) 37 0 (vp_updL (σ.2.2.1 37 0) (4 * s + (dr s).length) v)) 35 0 (upd (σ.2.1 35 0) s (i ((dr s).length + 1)))) := ((mf.rf.sA (by omega)).sL (by omega)).sA (by omega)
        refine wp_s ⟨⟨upd_at, rfl⟩, ?_⟩
        obtain ⟨h1, h2, h3, h4, h5, h6, h7, h8, h9, h10, h11, h12, h13⟩ := hA2
        refine ⟨h1, h2, h3, h4.fr hf (fun k _ _ => by omega) (fun q => q), h5.fr hf (by omega) (fun q => q), fun q hq => by rw [(hf.1 34 (by omega)).1]; exact h6 q hq, fun q hq => ?_, fun q p hq hp => (h8 q p hq hp).fr hf (fun k _ _ => (by omega)), fun q hq => by rw [(hf.1 45 (by omega)).1]; exact h9 q hq, fun q hq => by rw [(hf.1 43 (by omega)).1, (hf.1 44 (by omega)).1]; exact h10 q hq, fun q hq => (h11 q hq).fr hf (by omega) (by omega) (by omega), h12.fr hf (fun k _ _ => by omega) (by omega) (by omega) (by omega) (fun q => q), fun v hv => by rw [(hf.1 52 (by omega)).1]; exact h13 v hv⟩
        have hq7 := hA.2.2.2.2.2.2.1 q hq
        have hlq := (w5 q hq).1
        unfold va_up
        by_cases e : q = s
        · subst e
          rw [if_pos rfl]
          refine ⟨?_, fun j y hy => ?_⟩
          · show upd (σ.2.1 35 0) q (i ((dr q).length + 1)) q = _
            rw [upd_at, List.length_append]; rfl
          · show upd (σ.2.1 36 0) (4 * q + (dr q).length) k (4 * q + j) = _ ∧ vp_updL (σ.2.2.1 37 0) (4 * q + (dr q).length) v (4 * q + j) = _
            unfold upd vp_updL
            by_cases ej : j = (dr q).length
            · subst ej
              rw [List.getElem?_append_right (Nat.le_refl _), Nat.sub_self] at hy
              cases hy
              rw [if_pos rfl, if_pos rfl]
              exact ⟨rfl, rfl⟩
            · have hjl := (List.getElem?_eq_some_iff.mp hy).1
              rw [List.length_append] at hjl
              replace hjl : j < (dr q).length + 1 := hjl
              rw [List.getElem?_append_left (by omega)] at hy
              rw [if_neg (by omega), if_neg (by omega)]
              exact hq7.2 j y hy
        · rw [if_neg e]
          refine ⟨?_, fun j y hy => ?_⟩
          · show upd (σ.2.1 35 0) s (i ((dr s).length + 1)) q = _
            rw [upd_ne e]; exact hq7.1
          · have hjl := (List.getElem?_eq_some_iff.mp hy).1
            show upd (σ.2.1 36 0) (4 * s + (dr s).length) k (4 * q + j) = _ ∧ vp_updL (σ.2.2.1 37 0) (4 * s + (dr s).length) v (4 * q + j) = _
            unfold upd vp_updL
            rw [if_neg (by omega), if_neg (by omega)]
            exact hq7.2 j y hy
      · rw [if_neg h4]
        refine wp_ite (fun _ => ?_) (fun h => absurd (show σ.2.1 35 0 x.toNatClampNeg = 4 from by rw [hxn, hF1, l4, i_eq (by omega) (by decide)]; omega) h)
        refine wp_ite (fun h => absurd h (show ¬ i 4 ≤ 0 by decide)) (fun _ => ?_)
        exact wp_s ⟨rfl, mA_code (mA_code hA)⟩
    · rw [decide_eq_false (show ¬ (0 ≤ k ∧ k ≤ i 2) from hk), if_neg hk]
      refine wp_ite (fun h => absurd h (show ¬ i 3 = 0 by decide)) (fun _ => ?_)
      refine wp_ite (fun h => absurd h (show ¬ i 3 ≤ 0 by decide)) (fun _ => ?_)
      exact wp_s ⟨rfl, mA_code (mA_code hA)⟩
