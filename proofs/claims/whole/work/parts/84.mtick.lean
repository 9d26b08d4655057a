/-! The reference's clock. Ours. -/
theorem find_fidx {p : Tp → Bool} : ∀ (ts : List Tp), (ts.find? p = none ∧ ts.findIdx? p = none) ∨ ∃ pre t post, ts = pre ++ t :: post ∧ p t = true ∧ ts.findIdx? p = some pre.length ∧ ts.find? p = some t := by
  intro ts
  induction ts with
  | nil => exact Or.inl ⟨rfl, rfl⟩
  | cons t ts ih =>
    cases hp : p t with
    | true => exact Or.inr ⟨[], t, ts, rfl, hp, by rw [List.findIdx?_cons, hp]; rfl, by rw [List.find?_cons, hp]⟩
    | false =>
      rw [List.find?_cons, List.findIdx?_cons, hp]
      rcases ih with ⟨e1, e2⟩ | ⟨pre, u, post, e1, e2, e3, e4⟩
      · exact Or.inl ⟨e1, by rw [if_neg (show ¬ false = true by decide), e2]; rfl⟩
      · refine Or.inr ⟨t :: pre, u, post, by rw [e1]; rfl, e2, by rw [if_neg (show ¬ false = true by decide), e3]; rfl, e4⟩
theorem a_down_fr {s d : Nat} : ∀ {c : Nat} {ts : List Tp} {fr : Bool}, (a_down s d c ts fr).1 = (a_down s d c ts false).1 ∧ (a_down s d c ts fr).2 = (fr || (a_down s d c ts false).2) := by
  intro c
  induction c with
  | zero => intro ts fr; exact ⟨rfl, (Bool.or_false fr).symm⟩
  | succ c ih =>
    intro ts fr
    unfold a_down
    by_cases h : c + 1 < d
    · rw [if_pos h, if_pos h]; exact ⟨rfl, (Bool.or_false fr).symm⟩
    · rw [if_neg h, if_neg h]
      refine ⟨?_, ?_⟩
      · rw [(ih (fr := fr || _)).1, (ih (fr := false || _)).1]
      · rw [(ih (fr := fr || _)).2, (ih (fr := false || _)).2, Bool.false_or, Bool.or_assoc]
theorem va_up_id {α : Type} {g : Nat → α} {s : Nat} : va_up g s (g s) = g := by
  funext y
  unfold va_up
  split
  · rename_i h; rw [h]
  · rfl
theorem h100 : ∀ c, c ≤ 20 → ∀ b : Bool, (100 ≤ i (c + if b = true then 100 else 0)) = (b = true) := by
  intro c hc b
  have : ∀ c, c ≤ 20 → ∀ b : Bool, (100 ≤ i (c + if b = true then 100 else 0)) ↔ (b = true) := by decide +kernel
  exact propext (this c hc b)
theorem M_tick_dn {n s d cnt : Nat} {N : Int32} {k49 : Int32 → Int32 → Int32 → J → Option (Int32 × J)} {Q : Int32 × J → Prop} {now lat : Nat} {line : List Nat} {dr : Nat → List FV} {pt : Nat → Nat → List Fm} {la : Nat → Int32} {jo : Nat → Nat} {tk : Nat → Bool} {fn : Nat → Fq} {os : List Od} (hn : n ≤ 4) (hs : s < n) (hd : 1 ≤ d ∧ d ≤ 4) :
    ∀ (c f : Nat) (fr : Bool) (ts : List Tp) (dl : Nat → Nat) (σ : J), mA n σ (now, lat, ts, line, dl, dr, pt, la, jo, tk, fn, os) → wfA n (now, lat, ts, line, dl, dr, pt, la, jo, tk, fn, os) → dl s = c → d - 1 ≤ c → c + 200 ≤ f → (∀ (g : Nat) (τ : J), 150 ≤ g → mA n τ (now, lat, (a_down s d c ts fr).1, line, va_up dl s (d - 1), dr, pt, la, jo, tk, fn, os) → τ.1 24 0 0 = σ.1 24 0 0 → wp (M_tick_b122 n k49 g (i cnt) (b01 (a_down s d c ts fr).2) N (i s) τ) Q) → wp (M_tick_L81 n k49 f (i cnt) (b01 fr) N (i s) (i d) σ) Q := by
  intro c
  induction c with
  | zero =>
    intro f fr ts dl σ hA hw hc hdc hf hk
    obtain ⟨f, rfl⟩ : ∃ g, f = g + 1 := ⟨f - 1, by omega⟩
    show wp (M_tick_b81 n k49 (M_tick_L81 n k49 f) f (i cnt) (b01 fr) N (i s) (i d) σ) _
    unfold M_tick_b81
    refine wp_ite (fun q_ => absurd q_ (show ¬ i s < 0 by rw [l0, i_lt (by omega) (by decide)]; omega)) (fun _ => ?_)
    refine wp_ite (fun _ => ?_) (fun q_ => absurd (show q_in (i s) 4 = true by rw [i_in (by omega)]; omega) q_)
    refine wp_ite (fun _ => ?_) (fun q_ => absurd (show σ.2.1 34 0 (i s).toNatClampNeg < i d by rw [i_n (by omega), hA.2.2.2.2.2.1 s hs, hc, i_lt (by decide) (by omega)]; omega) q_)
    refine hk f σ (by omega) ?_ rfl
    rw [show d - 1 = dl s by omega, va_up_id]
    exact hA
  | succ c ih =>
    intro f fr ts dl σ hA hw hc hdc hf hk
    obtain ⟨f, rfl⟩ : ∃ g, f = g + 1 := ⟨f - 1, by omega⟩
    show wp (M_tick_b81 n k49 (M_tick_L81 n k49 f) f (i cnt) (b01 fr) N (i s) (i d) σ) _
    unfold M_tick_b81 M_tick_b113 M_tick_b118
    have hd4 := hw.2.2.2.1 s hs
    have h34 := hA.2.2.2.2.2.1 s hs
    refine wp_ite (fun q_ => absurd q_ (show ¬ i s < 0 by rw [l0, i_lt (by omega) (by decide)]; omega)) (fun _ => ?_)
    refine wp_ite (fun _ => ?_) (fun q_ => absurd (show q_in (i s) 4 = true by rw [i_in (by omega)]; omega) q_)
    by_cases hlt : c + 1 < d
    · refine wp_ite (fun _ => ?_) (fun q_ => absurd (show σ.2.1 34 0 (i s).toNatClampNeg < i d by rw [i_n (by omega), h34, hc, i_lt (by omega) (by omega)]; omega) q_)
      have e : a_down s d (c + 1) ts fr = (ts, fr) := by unfold a_down; rw [if_pos hlt]
      rw [e] at hk
      refine hk f σ (by omega) ?_ rfl
      rw [show d - 1 = dl s by omega, va_up_id]
      exact hA
    · refine wp_ite (fun q_ => absurd q_ (show ¬ σ.2.1 34 0 (i s).toNatClampNeg < i d by rw [i_n (by omega), h34, hc, i_lt (by omega) (by omega)]; omega)) (fun _ => ?_)
      have e : a_down s d (c + 1) ts fr = a_down s d c (a_undo s (c + 1) ts) (fr || a_freed s (c + 1) ts) := by
        show (if c + 1 < d then _ else _) = _
        rw [if_neg hlt]
      rw [e] at hk
      refine wp_bind (M_drop_s hA hw hs (by omega) (by omega)) (fun q hq => ?_)
      obtain ⟨q1, q2⟩ := q
      obtain ⟨g1, g2, g3⟩ := hq
      replace g1 : q1 = _ := g1
      subst g1
      dsimp only at g2 g3 ⊢
      have hw2 := wfA_undo hw hs (show 1 ≤ dl s by omega)
      rw [hc] at g2 hw2 ⊢
      have hgo : ∀ b : Bool, b = (fr || a_freed s (c + 1) ts) → wp (M_tick_L81 n k49 f (i cnt) (b01 b) N (i s) (i d) q2) Q := by
        intro b hb
        rw [hb]
        refine ih f _ _ _ q2 g2 hw2 ?_ (by omega) (by omega) (fun g τ hg hτ hcd => hk g τ hg ?_ (hcd.trans g3))
        · unfold va_up; rw [if_pos rfl]; omega
        · rw [va_up2] at hτ; exact hτ
      have hh := h100 _ (inDeal_le (s := s) (d := c + 1) hA.2.2.2.1.2.1) (a_freed s (c + 1) ts)
      cases hfr : a_freed s (c + 1) ts with
      | true =>
        rw [hfr] at hh hgo
        refine wp_ite (fun _ => ?_) (fun q_ => absurd (hh.symm ▸ rfl) q_)
        exact hgo true (Bool.or_true fr).symm
      | false =>
        rw [hfr] at hh hgo
        refine wp_ite (fun q_ => absurd q_ (fun q => by rw [hh] at q; cases q)) (fun _ => ?_)
        cases fr with
        | false =>
          refine wp_ite (fun _ => ?_) (fun q_ => absurd (show b01 false = 0 from rfl) q_)
          exact hgo false rfl
        | true =>
          refine wp_ite (fun q_ => absurd q_ (show ¬ b01 true = 0 by decide)) (fun _ => ?_)
          exact hgo true rfl
theorem filter_len {ts ts1 : List Tp} {t : Tp} (hsub : (ts1.map t_num).Sublist (ts.map t_num)) (ht : t ∈ ts) : (ts1.filter (fun u => decide (t_num u ≠ t_num t))).length < ts.length := by
  have h1 : (ts1.filter (fun u => decide (t_num u ≠ t_num t))).length = ((ts1.map t_num).filter (fun m => decide (m ≠ t_num t))).length := by
    rw [List.filter_map, List.length_map]; rfl
  have h2 := (hsub.filter (fun m => decide (m ≠ t_num t))).length_le
  have h3 : ((ts.map t_num).filter (fun m => decide (m ≠ t_num t))).length < (ts.map t_num).length := by
    refine List.length_filter_lt_length_iff_exists.mpr ⟨t_num t, List.mem_map.mpr ⟨t, ht, rfl⟩, ?_⟩
    simp
  rw [List.length_map] at h3
  omega
theorem undo_sub {s d : Nat} {ts : List Tp} : ((a_undo s d ts).map t_num).Sublist (ts.map t_num) := fm_num (fun t t1 h => by
  unfold a_undo1 at h
  split at h
  · cases h
  · split at h
    · cases h; rfl
    · cases h; rfl) ts
theorem down_sub {s d : Nat} : ∀ {c : Nat} {ts : List Tp} {fr : Bool}, ((a_down s d c ts fr).1.map t_num).Sublist (ts.map t_num) := by
  intro c
  induction c with
  | zero => intro ts fr; exact List.Sublist.refl _
  | succ c ih =>
    intro ts fr
    unfold a_down
    split
    · exact List.Sublist.refl _
    · exact ih.trans undo_sub
theorem mA_ts {n : Nat} {now lat : Nat} {ts : List Tp} {line : List Nat} {dl : Nat → Nat} {dr : Nat → List FV} {pt : Nat → Nat → List Fm} {la : Nat → Int32} {jo : Nat → Nat} {tk : Nat → Bool} {fn : Nat → Fq} {os : List Od} {ts1 : List Tp} {σ τ : J} (h : mA n σ (now, lat, ts, line, dl, dr, pt, la, jo, tk, fn, os)) (hf : mf Kr F1 σ τ) (hB : mB τ ts1) : mA n τ (now, lat, ts1, line, dl, dr, pt, la, jo, tk, fn, os) := by
  obtain ⟨h1, h2, h3, h4, h5, h6, h7, h8, h9, h10, h11, h12, h13⟩ := h
  exact ⟨by rw [hf.2 13 (by unfold F1; omega)]; exact h1, by rw [hf.2 3 (by unfold F1; omega)]; exact h2, by rw [hf.2 2 (by unfold F1; omega)]; exact h3, hB, h5.fr hf (by unfold Kr; omega) (by unfold F1; omega), fun q hq => by rw [(hf.1 34 (by unfold Kr; omega)).1]; exact h6 q hq, fun q hq => by rw [(hf.1 35 (by unfold Kr; omega)).1, (hf.1 36 (by unfold Kr; omega)).1, (hf.1 37 (by unfold Kr; omega)).2]; exact h7 q hq, fun q p hq hp => (h8 q p hq hp).fr hf (fun k _ _ => (by unfold Kr; omega)), fun q hq => by rw [(hf.1 45 (by unfold Kr; omega)).1]; exact h9 q hq, fun q hq => by rw [(hf.1 43 (by unfold Kr; omega)).1, (hf.1 44 (by unfold Kr; omega)).1]; exact h10 q hq, fun q hq => (h11 q hq).fr hf (by unfold Kr; omega) (by unfold Kr; omega) (by unfold Kr; omega), h12.fr hf (fun k _ _ => by unfold Kr; omega) (by unfold Kr; omega) (by unfold Kr; omega) (by unfold Kr; omega) (by unfold F1; omega), fun v hv => by rw [(hf.1 52 (by unfold Kr; omega)).1]; exact h13 v hv⟩
theorem M_tick_tl {n f cnt : Nat} {fr : Bool} {N : Int32} {k49 : Int32 → Int32 → Int32 → J → Option (Int32 × J)} {Q : Int32 × J → Prop} {now lat : Nat} {ts : List Tp} {line : List Nat} {dl : Nat → Nat} {dr : Nat → List FV} {pt : Nat → Nat → List Fm} {la : Nat → Int32} {jo : Nat → Nat} {tk : Nat → Bool} {fn : Nat → Fq} {os : List Od} {σ : J} (hA : mA n σ (now, lat, ts, line, dl, dr, pt, la, jo, tk, fn, os)) (hnd : (ts.map t_num).Nodup) (hfs : ∀ t ∈ ts, (t_fs t).length ≤ 4) (hnow : now < 2147483648) (he : ∀ t ∈ ts, ∃ e, e < 2147483648 ∧ t_end t = i e) (hf : 100 ≤ f) (hk : ∀ τ, mA n τ (now, lat, ts.filter (fun u => decide (t_num u ≠ N)), line, dl, dr, pt, la, jo, tk, fn, os) → τ.1 24 0 0 = σ.1 24 0 0 → wp (k49 (i (cnt + 1)) (b01 fr) (a_idx ((ts.filter (fun u => decide (t_num u ≠ N))).findIdx? (a_over now))) τ) Q) : wp (M_tick_b150 n k49 f (i cnt) (b01 fr) N σ) Q := by
  unfold M_tick_b150 M_tick_b169
  have hB := hA.2.2.2.1
  have h20 := hB.2.1
  refine wp_e (M_place_s hB hnd (by omega)) ?_
  rcases find_idx (N := N) hnd with ⟨e1, e2⟩ | ⟨pre, t, post, e1, e2, e3, -⟩
  · rw [e2]
    refine wp_ite (fun _ => ?_) (fun q_ => absurd (show a_idx none < 0 by decide) q_)
    have hflt : ts.filter (fun u => decide (t_num u ≠ N)) = ts := List.filter_eq_self.mpr (fun u hu => decide_eq_true (fun q => by
      have := List.find?_eq_none.mp e1 u hu
      simp at this
      exact this q))
    rw [hflt] at hk
    refine wp_e (M_ending_s hB hA.2.1 hnow he (by omega)) ?_
    dsimp only
    rw [show i cnt + 1 = i (cnt + 1) from i_add cnt 1]
    exact hk σ hA rfl
  · rw [e3]
    have hpl : pre.length < ts.length := by rw [e1, List.length_append, List.length_cons]; omega
    show wp (if i pre.length < 0 then _ else _) _
    refine wp_ite (fun q_ => absurd q_ (show ¬ i pre.length < 0 by rw [l0, i_lt (by omega) (by decide)]; omega)) (fun _ => ?_)
    refine wp_e (M_place_s hB hnd (by omega)) ?_
    rw [e3]
    refine wp_bind (M_remove_s (n := n) (f := f) (r := pre.length) hB hfs hpl (by omega)) (fun τ hτ => ?_)
    obtain ⟨t1, t2⟩ := hτ
    have hflt : ts.filter (fun u => decide (t_num u ≠ N)) = ts.eraseIdx pre.length := by
      rw [e1] at hnd ⊢
      rw [erase_mid]
      exact filter_mid hnd e2
    rw [← hflt] at t2
    have hA2 := mA_ts hA t1 t2
    refine wp_e (M_ending_s t2 hA2.2.1 hnow (fun u hu => he u (List.mem_filter.mp hu).1) (by omega)) ?_
    dsimp only
    rw [show i cnt + 1 = i (cnt + 1) from i_add cnt 1]
    exact hk τ hA2 (t1.2 0 (by unfold F1; omega))
theorem M_tick_L {n B0 : Nat} (hB0 : 18400 ≤ B0) {now lat : Nat} {dr : Nat → List FV} {pt : Nat → Nat → List Fm} {jo : Nat → Nat} {tk : Nat → Bool} {fn : Nat → Fq} {os : List Od} :
    ∀ (K f c : Nat) (frd : Bool) (ts : List Tp) (line : List Nat) (dl : Nat → Nat) (la : Nat → Int32) (σ : J), mA n σ (now, lat, ts, line, dl, dr, pt, la, jo, tk, fn, os) → wfA n (now, lat, ts, line, dl, dr, pt, la, jo, tk, fn, os) → ts.length ≤ K → K + B0 ≤ f → wp (M_tick_L49 n f (i c) (b01 frd) (a_idx (ts.findIdx? (a_over now))) σ) (fun q => q.1 = i (a_tick now K ts line dl la c frd).2.2.2.2.1 ∧ mA n q.2 (a_ticked (now, lat, ts, line, dl, dr, pt, la, jo, tk, fn, os) (a_tick now K ts line dl la c frd)) ∧ q.2.1 24 0 0 = σ.1 24 0 0) := by
  -- no lease is over
  have fin : ∀ (f c : Nat) (frd : Bool) (ts : List Tp) (line : List Nat) (dl : Nat → Nat) (la : Nat → Int32) (σ : J) (k49 : Int32 → Int32 → Int32 → J → Option (Int32 × J)), mA n σ (now, lat, ts, line, dl, dr, pt, la, jo, tk, fn, os) → wfA n (now, lat, ts, line, dl, dr, pt, la, jo, tk, fn, os) → 18300 ≤ f → wp (M_tick_b49 n k49 f (i c) (b01 frd) im σ) (fun q => q.1 = i c ∧ mA n q.2 (a_ticked (now, lat, ts, line, dl, dr, pt, la, jo, tk, fn, os) (ts, line, dl, la, c, frd)) ∧ q.2.1 24 0 0 = σ.1 24 0 0) := by
    intro f c frd ts line dl la σ k49 hA hw hf
    unfold M_tick_b49 M_tick_b189
    refine wp_ite (fun _ => ?_) (fun q_ => absurd (show im < 0 by decide) q_)
    cases frd with
    | false =>
      refine wp_ite (fun _ => ?_) (fun q_ => absurd (show b01 false = 0 from rfl) q_)
      exact wp_s ⟨rfl, hA, rfl⟩
    | true =>
      refine wp_ite (fun q_ => absurd q_ (show ¬ b01 true = 0 by decide)) (fun _ => ?_)
      refine wp_bind (M_serve_s hA hw (by omega)) (fun τ hτ => ?_)
      exact wp_s ⟨rfl, hτ.1, hτ.2⟩
  intro K
  induction K with
  | zero =>
    intro f c frd ts line dl la σ hA hw hK hf
    obtain ⟨f, rfl⟩ : ∃ g, f = g + 1 := ⟨f - 1, by omega⟩
    have hnil : ts = [] := List.eq_nil_of_length_eq_zero (by omega)
    subst hnil
    exact fin f c frd [] line dl la σ _ hA hw (by omega)
  | succ K ih =>
    intro f c frd ts line dl la σ hA hw hK hf
    obtain ⟨f, rfl⟩ : ∃ g, f = g + 1 := ⟨f - 1, by omega⟩
    have hw' := hw
    obtain ⟨w1, w2, w3, w4, w5, w6, w7, w8, w9, w10, w11, w12, w13⟩ := hw'
    have hp4 := php n line w2 w3
    rcases find_fidx (p := a_over now) ts with ⟨e1, e2⟩ | ⟨pre, t, post, e1, e2, e3, e4⟩
    · rw [e2, a_tick_none e1]
      exact fin f c frd ts line dl la σ _ hA hw (by omega)
    · have ha : a_tick now (K + 1) ts line dl la c frd = a_tick now K (a_end t ts line dl la).1 (a_end t ts line dl la).2.1 (a_end t ts line dl la).2.2.1 (a_end t ts line dl la).2.2.2.1 (c + 1) (frd || (a_end t ts line dl la).2.2.2.2) := by
        show (match ts.find? (a_over now) with | none => _ | some t => _) = _
        rw [e4]
      rw [ha, e3]
      have hB := hA.2.2.2.1
      have h20 := hB.2.1
      have htm : t ∈ ts := by rw [e1]; simp
      have hpl : pre.length < ts.length := by rw [e1, List.length_append, List.length_cons]; omega
      have hT := hB.2.2 pre.length t (by rw [e1]; exact get_mid)
      have hin : q_in (i pre.length) 20 = true := by rw [i_in (by omega)]; omega
      have hwe := wfA_end hw htm
      show wp (M_tick_b49 n (M_tick_L49 n f) f (i c) (b01 frd) (i pre.length) σ) _
      unfold M_tick_b49
      refine wp_ite (fun q_ => absurd q_ (show ¬ i pre.length < 0 by rw [l0, i_lt (by omega) (by decide)]; omega)) (fun _ => ?_)
      refine wp_ite (fun _ => ?_) (fun q_ => absurd (hin) q_)
      refine wp_ite (fun _ => ?_) (fun q_ => absurd (hin) q_)
      refine wp_ite (fun _ => ?_) (fun q_ => absurd (hin) q_)
      rw [i_n (by omega), hT.1, hT.2.2.2.2.1]
      -- what follows the end of a tuple
      have tail : ∀ (g : Nat) (τ : J) (ts1 : List Tp) (fr1 : Bool), 100 ≤ g → mA n τ (now, lat, ts1, (a_end t ts line dl la).2.1, (a_end t ts line dl la).2.2.1, dr, pt, (a_end t ts line dl la).2.2.2.1, jo, tk, fn, os) → (a_end t ts line dl la).1 = ts1.filter (fun u => decide (t_num u ≠ t_num t)) → (ts1.map t_num).Sublist (ts.map t_num) → (∀ u ∈ ts1, okT n now lat dl u) → fr1 = (frd || (a_end t ts line dl la).2.2.2.2) → τ.1 24 0 0 = σ.1 24 0 0 → wp (M_tick_b150 n (M_tick_L49 n f) g (i c) (b01 fr1) (t_num t) τ) (fun q => q.1 = i (a_tick now K (a_end t ts line dl la).1 (a_end t ts line dl la).2.1 (a_end t ts line dl la).2.2.1 (a_end t ts line dl la).2.2.2.1 (c + 1) (frd || (a_end t ts line dl la).2.2.2.2)).2.2.2.2.1 ∧ mA n q.2 (a_ticked (now, lat, ts, line, dl, dr, pt, la, jo, tk, fn, os) (a_tick now K (a_end t ts line dl la).1 (a_end t ts line dl la).2.1 (a_end t ts line dl la).2.2.1 (a_end t ts line dl la).2.2.2.1 (c + 1) (frd || (a_end t ts line dl la).2.2.2.2))) ∧ q.2.1 24 0 0 = σ.1 24 0 0) := by
        intro g τ ts1 fr1 hg hAt hts hsub hok hfr hcd
        subst hfr
        refine M_tick_tl hAt (w1.1.sublist hsub) (fun u hu => (hok u hu).2.2.2.2.1) (by omega) (fun u hu => ?_) hg (fun υ hυ hcu => ?_)
        · obtain ⟨-, ⟨e, k1, k2⟩, -⟩ := hok u hu
          exact ⟨e, by omega, k2⟩
        · rw [← hts] at hυ ⊢
          have hlt := filter_len (t := t) hsub htm
          rw [← hts] at hlt
          exact wp_mono (ih f (c + 1) _ _ _ _ _ υ hυ hwe (by omega) (by omega)) (fun q hq => ⟨hq.1, hq.2.1, hq.2.2.trans (hcu.trans hcd)⟩)
      obtain ⟨-, -, -, htk, -⟩ := w1.2 t htm
      obtain ⟨f, rfl⟩ : ∃ g, f = g + 1 := ⟨f - 1, by omega⟩
      rcases htk with ⟨p1, p2⟩ | ⟨s, d, p1, p2, p3, p4, p5⟩
      · have hae : a_end t ts line dl la = (ts.filter (fun u => decide (t_num u ≠ t_num t)), line, dl, la, false) := by unfold a_end; rw [if_pos p2]
        rw [p1]
        show wp (M_tick_b81 n (M_tick_L49 n (f + 1)) (M_tick_L81 n (M_tick_L49 n (f + 1)) f) f (i c) (b01 frd) (t_num t) im (σ.2.1 31 0 pre.length) σ) _
        unfold M_tick_b81 M_tick_b122
        refine wp_ite (fun _ => ?_) (fun q_ => absurd (show im < 0 by decide) q_)
        refine wp_ite (fun _ => ?_) (fun q_ => absurd (show im < 0 by decide) q_)
        refine tail f σ ts frd (by omega) ?_ (by rw [hae]) (List.Sublist.refl _) w1.2 (by rw [hae, Bool.or_false]) rfl
        rw [hae]; exact hA
      · have hd4 := w4 s p1
        have htd : ¬ t_tD t = im := by rw [p5]; exact fun q => by rw [i_m (by omega)] at q; exact q
        have hts0 : t_tS t ≠ im := by rw [p4]; exact fun q => by rw [i_m (by omega)] at q; exact q
        have hae : a_end t ts line dl la = ((a_down s d (dl s) ts false).1.filter (fun u => decide (t_num u ≠ t_num t)), line.erase s, va_up dl s (d - 1), if s ∈ line then va_up la s (i 3) else la, (a_down s d (dl s) ts false).2) := by
          unfold a_end
          rw [if_neg htd, p4, p5, i_n (by omega), i_n (by omega)]
        rw [p4, hT.2.2.2.2.2.1 hts0, p5]
        refine M_tick_dn w13 p1 ⟨p2, by omega⟩ (dl s) (f + 1) frd ts dl σ hA hw rfl (by omega) (by omega) (fun g τ hg hAt hcd => ?_)
        rw [(a_down_fr (fr := frd)).2]
        rw [(a_down_fr (fr := frd)).1] at hAt
        have hokd := okTs_down (s := s) (d := d) (c := dl s) (fr := false) w1
        unfold M_tick_b122
        refine wp_ite (fun q_ => absurd q_ (show ¬ i s < 0 by rw [l0, i_lt (by omega) (by decide)]; omega)) (fun _ => ?_)
        have h44 : ∀ q ∈ line, q < 4 := fun q hq => by have := w3 q hq; omega
        refine wp_e (M_standing_s hAt.2.2.2.2.1 (by omega) h44 w2 (by omega)) ?_
        dsimp only
        by_cases hm : s ∈ line
        · obtain ⟨k, k1, k2, k3, -⟩ := a_place_in h44 (show s < 4 by omega) hm
          rw [k1]
          refine wp_ite (fun q_ => absurd q_ (show ¬ i k < 0 by rw [l0, i_lt (by omega) (by decide)]; omega)) (fun _ => ?_)
          refine wp_bind (M_leave_s (n := n) hAt.2.2.2.2.1 (by omega) h44 w2 hm (by omega)) (fun υ hυ => ?_)
          obtain ⟨u1, u2⟩ := hυ
          refine wp_ite (fun _ => ?_) (fun q_ => absurd (show q_in (i s) 4 = true by rw [i_in (by omega)]; omega) q_)
          rw [bs_eq, i_n (by omega)]
          have hf2 : mf (fun k => k = 42 ∨ k = 45) (fun f => f = 22) τ (q_sA υ 45 0 (upd (υ.2.1 45 0) s 3)) := (u1.up (fun k q => Or.inl q) (fun f q => q)).sA (Or.inr rfl)
          have hA2 := mA_leave (v := i 3) hAt w2 hf2 u2 (fun q hq => by
            show upd (υ.2.1 45 0) s 3 q = va_up la s (i 3) q
            unfold upd va_up
            by_cases e : q = s
            · rw [if_pos e, if_pos e]; rfl
            · rw [if_neg e, if_neg e, (u1.1 45 (by omega)).1]; exact hAt.2.2.2.2.2.2.2.2.1 q hq)
          refine tail g _ (a_down s d (dl s) ts false).1 _ (by omega) ?_ (by rw [hae]) down_sub hokd.2 (by rw [hae]) ((hf2.2 0 (by omega)).trans hcd)
          rw [hae, if_pos hm]
          exact hA2
        · rw [a_place_out h44 (show s < 4 by omega) hm]
          refine wp_ite (fun _ => ?_) (fun q_ => absurd (show im < 0 by decide) q_)
          refine tail g τ (a_down s d (dl s) ts false).1 _ (by omega) ?_ (by rw [hae]) down_sub hokd.2 (by rw [hae]) hcd
          rw [hae, if_neg hm, List.erase_of_not_mem hm]
          exact hAt
theorem M_tick_s {n f : Nat} {x : Int32} {a : Sq} {σ : J} (hA : mA n σ a) (hw : wfA n a) (hb : a.1 ≤ 900000) (hf : 18500 ≤ f) : wp (M_tick n f x σ) (fun q => mR c1 (o_tick x a).1 q ∧ mA n q.2 (o_tick x a).2) := by
  obtain ⟨now, lat, ts, line, dl, dr, pt, la, jo, tk, fn, os⟩ := a
  replace hb : now ≤ 900000 := hb
  have hw' := hw
  obtain ⟨w1, w2, w3, w4, w5, w6, w7, w8, w9, w10, w11, w12, w13⟩ := hw'
  unfold M_tick M_tick_b0 M_tick_b17 o_tick
  simp only [bs_eq]
  refine wp_e (M_within_s.trans (congrArg (fun b => some (b01 b, σ)) (within_i (m := 1000) (by decide)))) ?_
  show wp (if b01 (decide (0 ≤ x) && decide (x ≤ 1000)) = 0 then _ else _) _
  cases hs : (decide (0 ≤ x) && decide (x ≤ 1000)) with
  | false =>
    refine wp_ite (fun _ => ?_) (fun q_ => absurd (show b01 false = 0 from rfl) q_)
    refine wp_ite (fun q_ => absurd q_ (show ¬ i 1 ≤ 0 by decide)) (fun _ => ?_)
    rw [if_neg (show ¬ false = true by decide)]
    exact wp_s ⟨rfl, mA_code hA⟩
  | true =>
    obtain ⟨k, hk, rfl⟩ := span_i hs
    refine wp_ite (fun q_ => absurd q_ (show ¬ b01 true = 0 by decide)) (fun _ => ?_)
    refine wp_ite (fun _ => ?_) (fun q_ => absurd (show i 0 ≤ 0 by decide) q_)
    rw [if_pos rfl, i_n (by omega)]
    show wp ((M_ending n f (q_sI (q_sI σ 24 0 0 (i 0)) 24 3 0 (σ.1 24 3 0 + i k))).bind _) _
    rw [hA.2.1, i_add]
    have hA1 : mA n (q_sI (q_sI σ 24 0 0 (i 0)) 24 3 0 (i (now + k))) (now + k, lat, ts, line, dl, dr, pt, la, jo, tk, fn, os) := by
      have hf : mf (fun _ => False) (fun f => f = 3) (q_sI σ 24 0 0 (i 0)) (q_sI (q_sI σ 24 0 0 (i 0)) 24 3 0 (i (now + k))) := mf.rf.sI rfl
      have hA0 := mA_code (v := i 0) hA
      obtain ⟨h1, h2, h3, h4, h5, h6, h7, h8, h9, h10, h11, h12, h13⟩ := hA0
      exact ⟨h1, rfl, h3, h4.fr hf (fun k _ _ q => q) (by omega), h5.fr hf (fun q => q) (by omega), h6, h7, h8, h9, h10, h11, h12.fr hf (fun k _ _ q => q) (fun q => q) (fun q => q) (fun q => q) (by omega), h13⟩
    have hw1 : wfA n (now + k, lat, ts, line, dl, dr, pt, la, jo, tk, fn, os) := ⟨okTs_now w1 (by omega), w2, w3, w4, w5, w6, w7, w8, w9, w10, w11, by omega, w13⟩
    have h20 := hA.2.2.2.1.2.1
    refine wp_e (M_ending_s hA1.2.2.2.1 hA1.2.1 (show now + k < 2147483648 by omega) (fun t ht => by
      obtain ⟨-, ⟨e, k1, k2⟩, -⟩ := w1.2 t ht
      exact ⟨e, by omega, k2⟩) (by omega)) ?_
    exact wp_mono (M_tick_L (B0 := 18400) (Nat.le_refl _) 20 f 0 false ts line dl la _ hA1 hw1 h20 (by omega)) (fun q hq => ⟨⟨hq.1, hq.2.2⟩, hq.2.1⟩)
