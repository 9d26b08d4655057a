/-! The reference's calls: seen, about, forget, form, renew, put. Ours. -/
theorem M_seen_L {n s : Nat} {ts : List Tp} {σ : J} (hB : mB σ ts) (hm : ∀ t ∈ ts, okM n t) (hn : n ≤ 4) :
    ∀ (m1 : List Tp) (j f : Nat) (y v : Int32), ts.drop j = m1 → j ≤ ts.length → m1.length < f → ((∃ c t, y = i c ∧ (m1.filter (a_sees (i s)))[c]? = some t ∧ v = t_num t) ∨ ((∀ c, c < (m1.filter (a_sees (i s))).length → y ≠ i c) ∧ v = im)) → M_seen_L31 n f (i s) y (i j) σ = some (v, σ) := by
  have h1 := hB.1
  have h20 := hB.2.1
  intro m1
  induction m1 with
  | nil =>
    intro j f y v hd hj hf hc
    obtain ⟨f, rfl⟩ : ∃ g, f = g + 1 := ⟨f - 1, by omega⟩
    have := List.drop_eq_nil_iff.mp hd
    unfold M_seen_L31 M_seen_b31
    rw [h1, if_pos (by rw [i_le (by omega) (by omega)]; omega)]
    rcases hc with ⟨c, t, -, q, -⟩ | ⟨-, q⟩
    · cases q
    · rw [q]; rfl
  | cons t m1 ih =>
    intro j f y v hd hj hf hc
    obtain ⟨f, rfl⟩ : ∃ g, f = g + 1 := ⟨f - 1, by omega⟩
    obtain ⟨d1, d2⟩ := drop_cons hd
    have hjl := (List.getElem?_eq_some_iff.mp d1).1
    have hfl : m1.length < f := by simp at hf; omega
    have hT := hB.2.2 j t d1
    have hfi : m1.length ≤ 20 := by rw [← d2, List.length_drop]; omega
    have hfi2 : (m1.filter (a_sees (i s))).length ≤ m1.length := List.length_filter_le _ _
    unfold M_seen_L31 M_seen_b31 M_seen_b68
    rw [h1, if_neg (by rw [i_le (by omega) (by omega)]; omega), M_sees_s hT (by omega) (hm t (List.mem_of_getElem? d1)) hn, some_bind]
    dsimp only
    cases hse : a_sees (i s) t with
    | false =>
      rw [if_pos (show b01 false = 0 from rfl), l1, i_add]
      refine ih (j + 1) f y v d2 (by omega) hfl ?_
      rw [List.filter_cons, if_neg (by rw [hse]; decide)] at hc
      exact hc
    | true =>
      rw [if_neg (show ¬ b01 true = 0 by decide)]
      rw [List.filter_cons, if_pos (by rw [hse])] at hc
      by_cases hy : y = 0
      · rw [if_pos hy, if_pos (by rw [i_in (by omega)]; omega), i_n (by omega), hT.1]
        rcases hc with ⟨c, u, e1, e2, e3⟩ | ⟨e1, e2⟩
        · have hcl := (List.getElem?_eq_some_iff.mp e2).1
          simp only [List.length_cons] at hcl
          rw [hy, l0, i_eq (by decide) (by omega)] at e1
          subst e1
          cases e2
          rw [e3]
        · exact absurd hy (e1 0 (by simp))
      · rw [if_neg hy, show i j + 1 = i (j + 1) from by rw [l1, i_add]]
        refine ih (j + 1) f (y + -1) v d2 (by omega) hfl ?_
        rcases hc with ⟨c, u, e1, e2, e3⟩ | ⟨e1, e2⟩
        · cases c with
          | zero => exact absurd e1 hy
          | succ c => exact Or.inl ⟨c, u, by rw [e1]; exact i_addm (by omega), e2, e3⟩
        · refine Or.inr ⟨fun c hc q => e1 (c + 1) (by simp; exact hc) ?_, e2⟩
          have : y = y + -1 + i 1 := by rw [Int32.add_assoc]; exact (Int32.add_zero y).symm
          rw [this, q, i_add]
theorem M_seen_s {n f : Nat} {x k : Int32} {a : Sq} {σ : J} (hA : mA n σ a) (hw : wfA n a) (hf : 30 ≤ f) : wp (M_seen n f x k σ) (fun q => mR id (o_seen n x k a) q ∧ mA n q.2 a) := by
  obtain ⟨now, lat, ts, line, dl, dr, pt, la, jo, tk, fn, os⟩ := a
  have hw' := hw
  obtain ⟨w1, w2, w3, w4, w5, w6, w7, w8, w9, w10, w11, w12, w13⟩ := hw'
  unfold M_seen M_seen_b0 M_seen_b14 o_seen
  simp only [bs_eq]
  refine wp_e (M_isSession_s hA.1) ?_
  cases h : a_sess n x with
  | false =>
    rw [if_neg (show ¬ false = true by decide)]
    refine wp_ite (fun _ => ?_) (fun h => absurd (show b01 false = 0 from rfl) h)
    refine wp_ite (fun h => absurd h (show ¬ i 1 ≤ 0 by decide)) (fun _ => ?_)
    exact wp_s ⟨rfl, mA_code hA⟩
  | true =>
    obtain ⟨s, hs, e1, e2⟩ := sess_i w13 h
    rw [if_pos rfl]
    refine wp_ite (fun h => absurd h (show ¬ b01 true = 0 by decide)) (fun _ => ?_)
    refine wp_ite (fun _ => ?_) (fun h => absurd (show i 0 ≤ 0 by decide) h)
    have hA2 := mA_code (v := 0) hA
    have h20 := hA2.2.2.2.1.2.1
    have hfl : (ts.filter (a_sees (i s))).length ≤ ts.length := List.length_filter_le _ _
    rw [e1]
    refine wp_eq (M_seen_L (n := n) (s := s) (σ := q_sI σ 24 0 0 0) hA2.2.2.2.1 (fun t ht => (w1.2 t ht).m w4) w13 ts 0 f k (if 0 ≤ k then (match (ts.filter (a_sees (i s)))[k.toNatClampNeg]? with | some t => t_num t | none => im) else im) rfl (Nat.zero_le _) (by omega) ?_) (wp_s ⟨⟨rfl, rfl⟩, hA2⟩)
    by_cases h0 : 0 ≤ k
    · obtain ⟨c, hc, e3, e4⟩ := w_i h0
      rw [if_pos h0, e4]
      cases hg : (ts.filter (a_sees (i s)))[c]? with
      | some t => exact Or.inl ⟨c, t, e3, hg, rfl⟩
      | none =>
        refine Or.inr ⟨fun q hq e => ?_, rfl⟩
        rw [e3, i_eq (by omega) (by omega)] at e
        have := List.getElem?_eq_none_iff.mp hg
        omega
    · rw [if_neg h0]
      refine Or.inr ⟨fun q hq e => h0 ?_, rfl⟩
      rw [e, l0, i_le (by decide) (by omega)]; omega
theorem find_idx {ts : List Tp} {N : Int32} (hnd : (ts.map t_num).Nodup) : (ts.find? (fun t => decide (t_num t = N)) = none ∧ ts.findIdx? (fun t => decide (t_num t = N)) = none) ∨ ∃ pre u post, ts = pre ++ u :: post ∧ t_num u = N ∧ ts.findIdx? (fun t => decide (t_num t = N)) = some pre.length ∧ ts.find? (fun t => decide (t_num t = N)) = some u := by
  by_cases h : ∃ t ∈ ts, t_num t = N
  · obtain ⟨t, ht, hN⟩ := h
    obtain ⟨pre, u, post, e1, e2, e3⟩ := findIdx_mid ht hN hnd
    refine Or.inr ⟨pre, u, post, e1, e2, e3, ?_⟩
    rw [e1] at hnd ⊢
    exact find_mid hnd e2
  · have h2 : ∀ t ∈ ts, t_num t ≠ N := fun t ht e => h ⟨t, ht, e⟩
    exact Or.inl ⟨find_no h2, List.findIdx?_eq_none_iff.mpr (fun q hq => by simpa using h2 q hq)⟩
theorem m4 : ∀ m, m < 12 → i m - i m / 4 * 4 = i (m % 4) := by decide +kernel
theorem M_about_s {n f : Nat} {m w : Int32} {a : Sq} {σ : J} (hA : mA n σ a) (hw : wfA n a) (hf : 30 ≤ f) : wp (M_about n f m w σ) (fun q => q.1 = o_about m w a ∧ q.2.1 24 0 0 = i 0 ∧ mA n q.2 a) := by
  obtain ⟨now, lat, ts, line, dl, dr, pt, la, jo, tk, fn, os⟩ := a
  have hw' := hw
  obtain ⟨w1, w2, w3, w4, w5, w6, w7, w8, w9, w10, w11, w12, w13⟩ := hw'
  unfold M_about M_about_b0 M_about_b42 M_about_b46 M_about_b140 o_about
  simp only [bs_eq]
  have hA2 := mA_code (v := 0) hA
  have hB := hA2.2.2.2.1
  have h20 := hB.2.1
  refine wp_e (M_place_s hB w1.1 hf) ?_
  rcases find_idx (N := m) w1.1 with ⟨e1, e2⟩ | ⟨pre, t, post, e1, e2, e3, e4⟩
  · rw [e1, e2]
    refine wp_ite (fun _ => ?_) (fun h => absurd (show a_idx none < 0 by decide) h)
    exact wp_s ⟨rfl, rfl, hA2⟩
  · rw [e3, e4]
    have hpl : pre.length < ts.length := by rw [e1, List.length_append, List.length_cons]; omega
    have hT := hB.2.2 pre.length t (by rw [e1]; exact get_mid)
    have hl4 := ((w1.2 t (by rw [e1]; simp)).2.2.2.2).1
    have hin : q_in (i pre.length) 20 = true := by rw [i_in (by omega)]; omega
    show wp (if i pre.length < 0 then _ else _) _
    refine wp_ite (fun h => absurd h (show ¬ i pre.length < 0 by rw [l0, i_lt (by omega) (by decide)]; omega)) (fun _ => ?_)
    dsimp only
    show wp _ (fun (q : Int64 × J) => q.1 = a_about t w ∧ q.2.1 24 0 0 = i 0 ∧ mA n q.2 _)
    have hx : a_idx (some pre.length) = i pre.length := rfl
    rw [hx]
    by_cases h0 : 0 ≤ w
    · obtain ⟨c, hc, e5, e6⟩ := w_i h0
      refine wp_ite (fun h => absurd h (nlt_of_le h0)) (fun _ => ?_)
      have haw : a_about t w = if c = 0 then (i (t_fs t).length).toInt64 else if c = 1 then (t_end t).toInt64 else if c = 2 then (t_pS t).toInt64 else if c = 3 then (t_tS t).toInt64 else if c < 8 then (match (t_fs t)[c - 4]? with | some x => x.1.toInt64 | none => -1) else (match (t_fs t)[c - 8]? with | some x => x.2 | none => -1) := by
        unfold a_about
        rw [e6, e5]
        have cn : ¬ i c < 0 := by rw [l0, i_lt hc (by decide)]; omega
        have c8 : (i c < 8) = (c < 8) := i_lt hc (by decide)
        have q0 : (i c = i 0) = (c = 0) := i_eq hc (by decide)
        have q1 : (i c = i 1) = (c = 1) := i_eq hc (by decide)
        have q2 : (i c = i 2) = (c = 2) := i_eq hc (by decide)
        have q3 : (i c = i 3) = (c = 3) := i_eq hc (by decide)
        by_cases k0 : c = 0
        · rw [if_pos (q0 ▸ k0), if_pos k0]
        rw [if_neg (q0 ▸ k0), if_neg k0]
        by_cases k1 : c = 1
        · rw [if_pos (q1 ▸ k1), if_pos k1]
        rw [if_neg (q1 ▸ k1), if_neg k1]
        by_cases k2 : c = 2
        · rw [if_pos (q2 ▸ k2), if_pos k2]
        rw [if_neg (q2 ▸ k2), if_neg k2]
        by_cases k3 : c = 3
        · rw [if_pos (q3 ▸ k3), if_pos k3]
        rw [if_neg (q3 ▸ k3), if_neg k3, if_neg cn]
        by_cases k8 : c < 8
        · rw [if_pos (c8 ▸ k8), if_pos k8]; rfl
        rw [if_neg (c8 ▸ k8), if_neg k8]; rfl
      rw [haw]
      subst e5
      by_cases h11 : c ≤ 11
      · refine wp_ite (fun h => absurd h (show ¬ 11 < i c by rw [show (11 : Int32) = i 11 from rfl, i_lt (by decide) hc]; omega)) (fun _ => ?_)
        have hpn : (i pre.length).toNatClampNeg = pre.length := i_n (by omega)
        by_cases h3 : c ≤ 3
        · refine wp_ite (fun _ => ?_) (fun h => absurd (show i c ≤ 3 by rw [l3, i_le hc (by decide)]; omega) h)
          have hc4 : c = 0 ∨ c = 1 ∨ c = 2 ∨ c = 3 := by omega
          rcases hc4 with rfl | rfl | rfl | rfl
          · refine wp_ite (fun _ => ?_) (fun h => absurd (show i 0 = 0 from rfl) h)
            refine wp_ite (fun _ => ?_) (fun h => absurd (hin) h)
            refine wp_s ⟨?_, rfl, hA2⟩
            show (σ.2.1 26 0 (i pre.length).toNatClampNeg).toInt64 = _
            rw [hpn]
            exact congrArg Int32.toInt64 hT.2.2.2.2.2.2.1
          · refine wp_ite (fun h => absurd h (show ¬ i 1 = 0 by decide)) (fun _ => ?_)
            refine wp_ite (fun _ => ?_) (fun h => absurd (show i 1 = 1 from rfl) h)
            refine wp_ite (fun _ => ?_) (fun h => absurd (hin) h)
            refine wp_s ⟨?_, rfl, hA2⟩
            show (σ.2.1 27 0 (i pre.length).toNatClampNeg).toInt64 = _
            rw [hpn]
            exact congrArg Int32.toInt64 hT.2.1
          · refine wp_ite (fun h => absurd h (show ¬ i 2 = 0 by decide)) (fun _ => ?_)
            refine wp_ite (fun h => absurd h (show ¬ i 2 = 1 by decide)) (fun _ => ?_)
            refine wp_ite (fun _ => ?_) (fun h => absurd (show i 2 = 2 from rfl) h)
            refine wp_ite (fun _ => ?_) (fun h => absurd (hin) h)
            refine wp_s ⟨?_, rfl, hA2⟩
            show (σ.2.1 28 0 (i pre.length).toNatClampNeg).toInt64 = _
            rw [hpn]
            exact congrArg Int32.toInt64 hT.2.2.1
          · refine wp_ite (fun h => absurd h (show ¬ i 3 = 0 by decide)) (fun _ => ?_)
            refine wp_ite (fun h => absurd h (show ¬ i 3 = 1 by decide)) (fun _ => ?_)
            refine wp_ite (fun h => absurd h (show ¬ i 3 = 2 by decide)) (fun _ => ?_)
            refine wp_ite (fun _ => ?_) (fun h => absurd (show i 3 = 3 from rfl) h)
            refine wp_ite (fun _ => ?_) (fun h => absurd (hin) h)
            refine wp_s ⟨?_, rfl, hA2⟩
            show (σ.2.1 30 0 (i pre.length).toNatClampNeg).toInt64 = _
            rw [hpn]
            exact congrArg Int32.toInt64 hT.2.2.2.2.1
        · refine wp_ite (fun h => absurd h (show ¬ i c ≤ 3 by rw [l3, i_le hc (by decide)]; omega)) (fun _ => ?_)
          refine wp_ite (fun h => absurd h (show ¬ (4 : Nat) = 0 by decide)) (fun _ => ?_)
          refine wp_ite (fun _ => ?_) (fun h => absurd (hin) h)
          have hF := hT.2.2.2.2.2.2
          have hF1 : σ.2.1 26 0 pre.length = i (t_fs t).length := hF.1
          rw [if_neg (show ¬ c = 0 by omega), if_neg (show ¬ c = 1 by omega), if_neg (show ¬ c = 2 by omega), if_neg (show ¬ c = 3 by omega)]
          have hlt : (i c - i c / 4 * 4 < σ.2.1 26 0 (i pre.length).toNatClampNeg) = (c % 4 < (t_fs t).length) := by rw [hpn, hF1, m4 c (by omega), i_lt (by omega) (by omega)]
          by_cases hl : c % 4 < (t_fs t).length
          · refine wp_ite (fun _ => ?_) (fun h => absurd (show i c - i c / 4 * 4 < σ.2.1 26 0 (i pre.length).toNatClampNeg by rw [hlt]; exact hl) h)
            refine wp_ite (fun h => absurd h (show ¬ i c = 0 by rw [l0, i_eq hc (by decide)]; omega)) (fun _ => ?_)
            refine wp_ite (fun h => absurd h (show ¬ i c = 1 by rw [l1, i_eq hc (by decide)]; omega)) (fun _ => ?_)
            refine wp_ite (fun h => absurd h (show ¬ i c = 2 by rw [l2, i_eq hc (by decide)]; omega)) (fun _ => ?_)
            refine wp_ite (fun h => absurd h (show ¬ i c = 3 by rw [l3, i_eq hc (by decide)]; omega)) (fun _ => ?_)
            obtain ⟨z, hz⟩ : ∃ z, (t_fs t)[c % 4]? = some z := ⟨_, List.getElem?_eq_getElem hl⟩
            have hzz := hF.2 (c % 4) z hz
            by_cases h8 : c < 8
            · refine wp_ite (fun h => absurd h (show ¬ 8 ≤ i c by rw [l8, i_le (by decide) hc]; omega)) (fun _ => ?_)
              have he : 4 * i pre.length + i c - 4 = i (4 * pre.length + c % 4) := by rw [l4, i_mul, i_add, i_sub (by omega), show 4 * pre.length + c - 4 = 4 * pre.length + c % 4 by omega]
              refine wp_ite (fun _ => ?_) (fun h => absurd (show q_in (4 * i pre.length + i c - 4) 80 = true by rw [he, i_in (by omega)]; omega) h)
              rw [if_pos h8, show c - 4 = c % 4 by omega, hz, he, i_n (by omega)]
              exact wp_s ⟨congrArg Int32.toInt64 hzz.1, rfl, hA2⟩
            · refine wp_ite (fun _ => ?_) (fun h => absurd (show 8 ≤ i c by rw [l8, i_le (by decide) hc]; omega) h)
              have he : 4 * i pre.length + i c - 8 = i (4 * pre.length + c % 4) := by rw [l4, l8, i_mul, i_add, i_sub (by omega), show 4 * pre.length + c - 8 = 4 * pre.length + c % 4 by omega]
              refine wp_ite (fun _ => ?_) (fun h => absurd (show q_in (4 * i pre.length + i c - 8) 80 = true by rw [he, i_in (by omega)]; omega) h)
              rw [if_neg h8, show c - 8 = c % 4 by omega, hz, he, i_n (by omega)]
              exact wp_s ⟨hzz.2, rfl, hA2⟩
          · refine wp_ite (fun h => absurd h (show ¬ i c - i c / 4 * 4 < σ.2.1 26 0 (i pre.length).toNatClampNeg by rw [hlt]; exact hl)) (fun _ => ?_)
            refine wp_s ⟨?_, rfl, hA2⟩
            show (-1 : Int64) = _
            by_cases h8 : c < 8
            · rw [if_pos h8, List.getElem?_eq_none (by omega)]
            · rw [if_neg h8, List.getElem?_eq_none (by omega)]
      · refine wp_ite (fun _ => ?_) (fun h => absurd (show 11 < i c by rw [show (11 : Int32) = i 11 from rfl, i_lt (by decide) hc]; omega) h)
        refine wp_s ⟨?_, rfl, hA2⟩
        show (-1 : Int64) = _
        rw [if_neg (show ¬ c = 0 by omega), if_neg (show ¬ c = 1 by omega), if_neg (show ¬ c = 2 by omega), if_neg (show ¬ c = 3 by omega), if_neg (show ¬ c < 8 by omega), List.getElem?_eq_none (by omega)]
    · refine wp_ite (fun _ => ?_) (fun h => absurd (i_neg h0) h)
      refine wp_s ⟨?_, rfl, hA2⟩
      show (-1 : Int64) = _
      unfold a_about
      have hne : ∀ k, k < 4 → ¬ w = i k := fun k hk e => h0 (by rw [e, l0, i_le (by decide) (by omega)]; omega)
      rw [if_neg (hne 0 (by decide)), if_neg (hne 1 (by decide)), if_neg (hne 2 (by decide)), if_neg (hne 3 (by decide)), if_pos (i_neg h0)]
