/-! The reference's board. Ours. -/
/-- a tuple's marks, as they may be -/
def okM (n : Nat) (t : Tp) : Prop := ((t_pS t = im ∧ t_pD t = im) ∨ ∃ s d, s < n ∧ 1 ≤ d ∧ d ≤ 4 ∧ t_pS t = i s ∧ t_pD t = i d) ∧ ((t_tS t = im ∧ t_tD t = im) ∨ ∃ s d, s < n ∧ 1 ≤ d ∧ d ≤ 4 ∧ t_tS t = i s ∧ t_tD t = i d)
theorem okT.m {n now lat : Nat} {dl : Nat → Nat} {t : Tp} (h : okT n now lat dl t) (h4 : ∀ s, s < n → dl s ≤ 4) : okM n t := by
  obtain ⟨-, -, h3, h5, -⟩ := h
  refine ⟨h3, ?_⟩
  rcases h5 with q | ⟨s, d, q1, q2, q3, q4⟩
  · exact Or.inl q
  · exact Or.inr ⟨s, d, q1, q2, by have := h4 s q1; omega, q4⟩
theorem M_sees_s {n s j : Nat} {t : Tp} {σ : J} (hT : mT σ j t) (hj : j < 20) (hm : okM n t) (hn : n ≤ 4) : M_sees n (i s) (i j) σ = some (b01 (a_sees (i s) t), σ) := by
  have hin : q_in (i j) 20 = true := by rw [i_in (by omega)]; exact hj
  unfold M_sees M_sees_b0 M_sees_b28 M_sees_b32 M_sees_b33 a_sees
  simp only [and1_0, and1_1, if_true]
  rw [if_pos hin, if_pos hin, if_pos hin, i_n (by omega), hT.2.2.2.2.1, hT.2.2.1]
  rcases hm.2 with q | ⟨s1, d1, x1, x2, x3, x4, x5⟩
  · rw [q.1, q.2, if_neg (show ¬ 0 ≤ im by decide), decide_eq_true rfl, Bool.true_and]
    rcases hm.1 with p | ⟨s2, d2, y1, y2, y3, y4, y5⟩
    · rw [p.1, p.2, if_pos (show im < 0 by decide), decide_eq_true rfl]; rfl
    · rw [y4, y5, if_neg (by rw [l0, i_lt (by omega) (by decide)]; omega), decide_eq_false (i_pos y2 (by omega)), Bool.false_or]
      by_cases e : i s2 = i s
      · rw [if_pos e, decide_eq_true e]; rfl
      · rw [if_neg e, decide_eq_false e]; rfl
  · rw [x4, x5, if_pos (by rw [l0, i_le (by decide) (by omega)]; omega), decide_eq_false (i_pos x2 (by omega))]; rfl
theorem M_isPut_s {n s j d : Nat} {t : Tp} {σ : J} (hT : mT σ j t) (hj : j < 20) (hs : s < 4) (hd : σ.2.1 34 0 s = i d) : M_isPut n (i s) (i j) σ = some (b01 (a_isP (i s) (i d) t), σ) := by
  have hin : q_in (i j) 20 = true := by rw [i_in (by omega)]; exact hj
  have his : q_in (i s) 4 = true := by rw [i_in (by omega)]; exact hs
  unfold M_isPut M_isPut_b0 M_isPut_b29 M_isPut_b30 a_isP
  simp only [and1_0, and1_1, if_true]
  rw [if_pos hin, if_pos hin, if_pos his, i_n (by omega), i_n (by omega), hT.2.2.1, hd]
  by_cases e : t_pS t = i s
  · rw [if_pos e, hT.2.2.2.1 (by rw [e]; exact fun q => by rw [i_m (by omega)] at q; exact q), decide_eq_true e, Bool.true_and]
    by_cases e2 : t_pD t = i d
    · rw [if_pos e2, decide_eq_true e2]; rfl
    · rw [if_neg e2, decide_eq_false e2]; rfl
  · rw [if_neg e, decide_eq_false e]; rfl
theorem M_isTaken_s {n s j d : Nat} {t : Tp} {σ : J} (hT : mT σ j t) (hj : j < 20) (hs : s < 4) (hd : σ.2.1 34 0 s = i d) : M_isTaken n (i s) (i j) σ = some (b01 (a_isT (i s) (i d) t), σ) := by
  have hin : q_in (i j) 20 = true := by rw [i_in (by omega)]; exact hj
  have his : q_in (i s) 4 = true := by rw [i_in (by omega)]; exact hs
  unfold M_isTaken M_isTaken_b0 M_isTaken_b29 M_isTaken_b30 a_isT
  simp only [and1_0, and1_1, if_true]
  rw [if_pos hin, if_pos hin, if_pos his, i_n (by omega), i_n (by omega), hT.2.2.2.2.1, hd]
  by_cases e : t_tS t = i s
  · rw [if_pos e, hT.2.2.2.2.2.1 (by rw [e]; exact fun q => by rw [i_m (by omega)] at q; exact q), decide_eq_true e, Bool.true_and]
    by_cases e2 : t_tD t = i d
    · rw [if_pos e2, decide_eq_true e2]; rfl
    · rw [if_neg e2, decide_eq_false e2]; rfl
  · rw [if_neg e, decide_eq_false e]; rfl
/-- a place, or none -/
def a_idx (o : Option Nat) : Int32 := match o with
  | some k => i k
  | none => im
theorem M_place_L {n : Nat} {σ : J} {ts : List Tp} {N : Int32} (h : mB σ ts) (hnd : (ts.map t_num).Nodup) : ∀ (m1 : List Tp) (j f : Nat) (p : Int32), ts.drop j = m1 → j ≤ ts.length → m1.length < f → M_place_L4 n f N p (i j) σ = some (match m1.findIdx? (fun t => decide (t_num t = N)) with | some k => i (j + k) | none => p, σ) := by
  obtain ⟨h1, h2, h3⟩ := h
  intro m1
  induction m1 with
  | nil =>
    intro j f p hd hj hf
    obtain ⟨f, rfl⟩ : ∃ g, f = g + 1 := ⟨f - 1, by omega⟩
    have := List.drop_eq_nil_iff.mp hd
    unfold M_place_L4 M_place_b4
    rw [h1, if_pos (by rw [i_le (by omega) (by omega)]; omega)]
    rfl
  | cons a m1 ih =>
    intro j f p hd hj hf
    obtain ⟨f, rfl⟩ : ∃ g, f = g + 1 := ⟨f - 1, by omega⟩
    obtain ⟨d1, d2⟩ := drop_cons hd
    have hjl := (List.getElem?_eq_some_iff.mp d1).1
    have hfl : m1.length < f := by simp at hf; omega
    have hnd1 : ((a :: m1).map t_num).Nodup := by rw [← hd]; exact hnd.sublist (List.Sublist.map _ (List.drop_sublist _ _))
    unfold M_place_L4 M_place_b4 M_place_b27
    rw [h1, if_neg (by rw [i_le (by omega) (by omega)]; omega), if_pos (by rw [i_in (by omega)]; omega), i_n (by omega), (h3 j a d1).1, List.findIdx?_cons, l1, i_add]
    by_cases ha : t_num a = N
    · rw [if_pos ha, ih (j + 1) f (i j) d2 (by omega) hfl, if_pos (by simpa using ha)]
      have : m1.findIdx? (fun t => decide (t_num t = N)) = none := List.findIdx?_eq_none_iff.mpr (fun q hq => by
        rw [decide_eq_false_iff_not, ← ha]
        exact fun e => (List.nodup_cons.mp hnd1).1 (e ▸ List.mem_map_of_mem hq))
      rw [this]
      rfl
    · rw [if_neg ha, if_neg (by simpa using ha), ih (j + 1) f p d2 (by omega) hfl]
      cases m1.findIdx? (fun t => decide (t_num t = N)) with
      | none => rfl
      | some k =>
        show some (i (j + 1 + k), σ) = some (i (j + (k + 1)), σ)
        rw [show j + 1 + k = j + (k + 1) by omega]
theorem M_place_s {n f : Nat} {σ : J} {ts : List Tp} {N : Int32} (h : mB σ ts) (hnd : (ts.map t_num).Nodup) (hf : 30 ≤ f) : M_place n f N σ = some (a_idx (ts.findIdx? (fun t => decide (t_num t = N))), σ) := by
  have h2 := h.2.1
  have := M_place_L (n := n) (N := N) h hnd ts 0 f im rfl (by omega) (by omega)
  unfold M_place M_place_b0
  rw [show (0 : Int32) = i 0 from rfl]
  refine this.trans ?_
  cases ts.findIdx? (fun t => decide (t_num t = N)) with
  | none => rfl
  | some k => show some (i (0 + k), σ) = some (i k, σ); rw [Nat.zero_add]
theorem M_ending_L {n now : Nat} {σ : J} {ts : List Tp} (h : mB σ ts) (hnow : σ.1 24 3 0 = i now) (hb : now < 2147483648) (he : ∀ t ∈ ts, ∃ e, e < 2147483648 ∧ t_end t = i e) : ∀ (m1 : List Tp) (j f : Nat), ts.drop j = m1 → j ≤ ts.length → m1.length < f → M_ending_L2 n f (i j) σ = some (match m1.findIdx? (a_over now) with | some k => i (j + k) | none => im, σ) := by
  obtain ⟨h1, h2, h3⟩ := h
  intro m1
  induction m1 with
  | nil =>
    intro j f hd hj hf
    obtain ⟨f, rfl⟩ : ∃ g, f = g + 1 := ⟨f - 1, by omega⟩
    have := List.drop_eq_nil_iff.mp hd
    unfold M_ending_L2 M_ending_b2
    rw [h1, if_pos (by rw [i_le (by omega) (by omega)]; omega)]
    rfl
  | cons a m1 ih =>
    intro j f hd hj hf
    obtain ⟨f, rfl⟩ : ∃ g, f = g + 1 := ⟨f - 1, by omega⟩
    obtain ⟨d1, d2⟩ := drop_cons hd
    have hjl := (List.getElem?_eq_some_iff.mp d1).1
    have hfl : m1.length < f := by simp at hf; omega
    have hin : q_in (i j) 20 = true := by rw [i_in (by omega)]; omega
    obtain ⟨e, he1, he2⟩ := he a (List.mem_of_getElem? d1)
    unfold M_ending_L2 M_ending_b2 M_ending_b34
    rw [h1, if_neg (by rw [i_le (by omega) (by omega)]; omega), if_pos hin, if_pos hin, i_n (by omega), (h3 j a d1).2.1, he2, hnow, List.findIdx?_cons, l1, i_add]
    have hov : a_over now a = (decide (e ≠ 0) && decide (e ≤ now)) := by
      unfold a_over
      rw [he2]
      congr 1
      · exact decide_eq_decide.mpr (by rw [ne_eq, ne_eq, i_eq he1 (by decide)])
      · exact decide_eq_decide.mpr (by rw [i_le he1 hb])
    have rest : (match m1.findIdx? (a_over now) with | some k => i (j + 1 + k) | none => im) = (match (m1.findIdx? (a_over now)).map (fun k => k + 1) with | some k => i (j + k) | none => im) := by
      cases m1.findIdx? (a_over now) with
      | none => rfl
      | some k => show i (j + 1 + k) = i (j + (k + 1)); rw [show j + 1 + k = j + (k + 1) by omega]
    by_cases e0 : e = 0
    · rw [if_pos (by rw [l0, i_le he1 (by decide)]; omega), if_neg (by rw [hov, decide_eq_false (fun q => q e0), Bool.false_and]; decide), ih (j + 1) f d2 (by omega) hfl, rest]
    · rw [if_neg (by rw [l0, i_le he1 (by decide)]; omega)]
      by_cases e1 : e ≤ now
      · rw [if_neg (by rw [i_lt hb he1]; omega), if_pos (by rw [hov, decide_eq_true e0, decide_eq_true e1]; rfl)]
        rfl
      · rw [if_pos (by rw [i_lt hb he1]; omega), if_neg (by rw [hov, decide_eq_false e1, Bool.and_false]; decide), ih (j + 1) f d2 (by omega) hfl, rest]
theorem M_ending_s {n f now : Nat} {σ : J} {ts : List Tp} (h : mB σ ts) (hnow : σ.1 24 3 0 = i now) (hb : now < 2147483648) (he : ∀ t ∈ ts, ∃ e, e < 2147483648 ∧ t_end t = i e) (hf : 30 ≤ f) : M_ending n f σ = some (a_idx (ts.findIdx? (a_over now)), σ) := by
  have h2 := h.2.1
  have := M_ending_L (n := n) h hnow hb he ts 0 f rfl (by omega) (by omega)
  unfold M_ending M_ending_b0
  rw [show (0 : Int32) = i 0 from rfl]
  refine this.trans ?_
  cases ts.findIdx? (a_over now) with
  | none => rfl
  | some k => show some (i (0 + k), σ) = some (i k, σ); rw [Nat.zero_add]
/-- the rows that removing changes -/
def Kr : Nat → Prop := fun k => 25 ≤ k ∧ k ≤ 33
def F1 : Nat → Prop := fun f => f = 1
/-- a row of four -/
theorem M_remove_in {n k f : Nat} {k2 : Int32 → J → Option J} {σ : J} (hk : k + 1 < 20) (hf : 10 ≤ f) : ∃ τ, M_remove_L114 n k2 f (i k) (i (4 * k)) σ = k2 (i (k + 1)) τ ∧ τ.1 = σ.1 ∧ (∀ x, x ≠ 32 → τ.2.1 x 0 = σ.2.1 x 0) ∧ (∀ x, x ≠ 33 → τ.2.2.1 x 0 = σ.2.2.1 x 0) ∧ (∀ y, τ.2.1 32 0 y = if 4 * k ≤ y ∧ y < 4 * k + 4 then σ.2.1 32 0 (y + 4) else σ.2.1 32 0 y) ∧ ∀ y, τ.2.2.1 33 0 y = if 4 * k ≤ y ∧ y < 4 * k + 4 then σ.2.2.1 33 0 (y + 4) else σ.2.2.1 33 0 y := by
  have L : ∀ (m q g : Nat) (ρ : J), q + m = 4 → m < g → ∃ τ, M_remove_L114 n k2 g (i k) (i (4 * k + q)) ρ = k2 (i (k + 1)) τ ∧ τ.1 = ρ.1 ∧ (∀ x, x ≠ 32 → τ.2.1 x 0 = ρ.2.1 x 0) ∧ (∀ x, x ≠ 33 → τ.2.2.1 x 0 = ρ.2.2.1 x 0) ∧ (∀ y, τ.2.1 32 0 y = if 4 * k + q ≤ y ∧ y < 4 * k + 4 then ρ.2.1 32 0 (y + 4) else ρ.2.1 32 0 y) ∧ ∀ y, τ.2.2.1 33 0 y = if 4 * k + q ≤ y ∧ y < 4 * k + 4 then ρ.2.2.1 33 0 (y + 4) else ρ.2.2.1 33 0 y := by
    intro m
    induction m with
    | zero =>
      intro q g ρ hq hg
      obtain ⟨g, rfl⟩ : ∃ h, g = h + 1 := ⟨g - 1, by omega⟩
      refine ⟨ρ, ?_, rfl, fun _ _ => rfl, fun _ _ => rfl, fun y => by rw [if_neg (by omega)], fun y => by rw [if_neg (by omega)]⟩
      show M_remove_b114 n k2 (M_remove_L114 n k2 g) g (i k) (i (4 * k + q)) ρ = _
      unfold M_remove_b114
      rw [l4, i_mul, i_add, l1, i_add, if_pos (by rw [i_le (by omega) (by omega)]; omega)]
    | succ m ih =>
      intro q g ρ hq hg
      obtain ⟨g, rfl⟩ : ∃ h, g = h + 1 := ⟨g - 1, by omega⟩
      obtain ⟨τ, t1, t2, t3, t4, t5, t6⟩ := ih (q + 1) g (q_sL (q_sA ρ 32 0 (upd (ρ.2.1 32 0) (4 * k + q) (ρ.2.1 32 0 (4 * k + q + 4)))) 33 0 (vp_updL (ρ.2.2.1 33 0) (4 * k + q) (ρ.2.2.1 33 0 (4 * k + q + 4)))) (by omega) (by omega)
      refine ⟨τ, ?_, t2, fun x hx => ?_, fun x hx => ?_, fun y => ?_, fun y => ?_⟩
      · rw [← t1]
        show M_remove_b114 n k2 (M_remove_L114 n k2 g) g (i k) (i (4 * k + q)) ρ = _
        unfold M_remove_b114
        rw [l4, i_mul, i_add, i_add, l1, i_add, i_add, if_neg (by rw [i_le (by omega) (by omega)]; omega), if_pos (by rw [i_in (by omega)]; omega), if_pos (by rw [i_in (by omega)]; omega), bs_eq, if_pos (by rw [i_in (by omega)]; omega), if_pos (by rw [i_in (by omega)]; omega), bs_eq, i_n (by omega), i_n (by omega)]
        rfl
      · rw [t3 x hx, sL2, sA2, if_neg (by omega)]
      · rw [t4 x hx, sL3, if_neg (by omega), sA3]
      · rw [t5 y]
        show (if 4 * k + (q + 1) ≤ y ∧ y < 4 * k + 4 then upd (ρ.2.1 32 0) (4 * k + q) (ρ.2.1 32 0 (4 * k + q + 4)) (y + 4) else upd (ρ.2.1 32 0) (4 * k + q) (ρ.2.1 32 0 (4 * k + q + 4)) y) = _
        unfold upd
        by_cases e : y = 4 * k + q
        · subst e
          rw [if_neg (by omega), if_pos rfl, if_pos (by omega)]
        · by_cases e2 : 4 * k + (q + 1) ≤ y ∧ y < 4 * k + 4
          · rw [if_pos e2, if_neg (by omega), if_pos (by omega)]
          · rw [if_neg e2, if_neg e, if_neg (by omega)]
      · rw [t6 y]
        show (if 4 * k + (q + 1) ≤ y ∧ y < 4 * k + 4 then vp_updL (ρ.2.2.1 33 0) (4 * k + q) (ρ.2.2.1 33 0 (4 * k + q + 4)) (y + 4) else vp_updL (ρ.2.2.1 33 0) (4 * k + q) (ρ.2.2.1 33 0 (4 * k + q + 4)) y) = _
        unfold vp_updL
        by_cases e : y = 4 * k + q
        · subst e
          rw [if_neg (by omega), if_pos rfl, if_pos (by omega)]
        · by_cases e2 : 4 * k + (q + 1) ≤ y ∧ y < 4 * k + 4
          · rw [if_pos e2, if_neg (by omega), if_pos (by omega)]
          · rw [if_neg e2, if_neg e, if_neg (by omega)]
  exact L 4 0 f σ (by decide) (by omega)
/-- a row is as another was -/
theorem mT.copy {σ τ : J} {k j : Nat} {t : Tp} (h : mT σ j t) (h1 : ∀ x, 25 ≤ x → x ≤ 31 → τ.2.1 x 0 k = σ.2.1 x 0 j) (h2 : ∀ q, q < 4 → τ.2.1 32 0 (4 * k + q) = σ.2.1 32 0 (4 * j + q) ∧ τ.2.2.1 33 0 (4 * k + q) = σ.2.2.1 33 0 (4 * j + q)) (hl : (t_fs t).length ≤ 4) : mT τ k t := by
  obtain ⟨g1, g2, g3, g4, g5, g6, g7⟩ := h
  refine ⟨by rw [h1 25 (by decide) (by decide)]; exact g1, by rw [h1 27 (by decide) (by decide)]; exact g2, by rw [h1 28 (by decide) (by decide)]; exact g3, fun e => by rw [h1 29 (by decide) (by decide)]; exact g4 e, by rw [h1 30 (by decide) (by decide)]; exact g5, fun e => by rw [h1 31 (by decide) (by decide)]; exact g6 e, by rw [h1 26 (by decide) (by decide)]; exact g7.1, fun q x hx => ?_⟩
  have hq := (List.getElem?_eq_some_iff.mp hx).1
  obtain ⟨e1, e2⟩ := h2 q (by omega)
  show τ.2.1 32 0 (4 * k + q) = _ ∧ τ.2.2.1 33 0 (4 * k + q) = _
  rw [e1, e2]
  exact g7.2 q x hx
theorem M_remove_L {n r : Nat} {ts : List Tp} (hl : ∀ t ∈ ts, (t_fs t).length ≤ 4) (h20 : ts.length ≤ 20) (hr : r < ts.length) :
    ∀ (m k f : Nat) (σ : J), k + m + 1 = ts.length → r ≤ k → m + 20 ≤ f → σ.1 24 1 0 = i ts.length → (∀ j t, j < k → (ts.eraseIdx r)[j]? = some t → mT σ j t) → (∀ j t, k < j → ts[j]? = some t → mT σ j t) → wp (M_remove_L2 n f (i k) σ) (fun τ => mf Kr F1 σ τ ∧ mB τ (ts.eraseIdx r)) := by
  intro m
  induction m with
  | zero =>
    intro k f σ hk hrk hf h1 h2 h3
    obtain ⟨f, rfl⟩ : ∃ g, f = g + 1 := ⟨f - 1, by omega⟩
    show wp (M_remove_b2 n (M_remove_L2 n f) f (i k) σ) _
    unfold M_remove_b2
    rw [h1, l1, i_add, if_pos (by rw [i_le (by omega) (by omega)]; omega), bs_eq, wp_some, i_sub (by omega)]
    have hlen : (ts.eraseIdx r).length = ts.length - 1 := List.length_eraseIdx_of_lt hr
    refine ⟨mf.rf.sI rfl, by rw [hlen, sI1, if_pos ⟨rfl, rfl, rfl⟩], by omega, fun j t hj => ?_⟩
    have hjl := (List.getElem?_eq_some_iff.mp hj).1
    exact h2 j t (by omega) hj
  | succ m ih =>
    intro k f σ hk hrk hf h1 h2 h3
    obtain ⟨f, rfl⟩ : ∃ g, f = g + 1 := ⟨f - 1, by omega⟩
    show wp (M_remove_b2 n (M_remove_L2 n f) f (i k) σ) _
    unfold M_remove_b2
    have hi1 : q_in (i (k + 1)) 20 = true := by rw [i_in (by omega)]; omega
    have hi2 : q_in (i k) 20 = true := by rw [i_in (by omega)]; omega
    rw [h1, l1, i_add, if_neg (by rw [i_le (by omega) (by omega)]; omega)]
    simp only [hi1, hi2, if_true, bs_eq]
    rw [i_n (by omega), i_n (by omega), l4, i_mul]
    generalize hρ : q_sA (q_sA (q_sA (q_sA (q_sA (q_sA (q_sA σ 25 0 _) 26 0 _) 27 0 _) 28 0 _) 29 0 _) 30 0 _) 31 0 _ = ρ
    have hA : ∀ x, 25 ≤ x → x ≤ 31 → ∀ y, ρ.2.1 x 0 y = if y = k then σ.2.1 x 0 (k + 1) else σ.2.1 x 0 y := by
      intro x hx1 hx2 y
      rw [← hρ]
      have hxx : x = 25 ∨ x = 26 ∨ x = 27 ∨ x = 28 ∨ x = 29 ∨ x = 30 ∨ x = 31 := by omega
      rcases hxx with rfl | rfl | rfl | rfl | rfl | rfl | rfl <;> rfl
    have hB : mf (fun x => 25 ≤ x ∧ x ≤ 31) (fun _ => False) σ ρ := by
      rw [← hρ]
      exact ((((((mf.rf.sA (by omega)).sA (by omega)).sA (by omega)).sA (by omega)).sA (by omega)).sA (by omega)).sA (by omega)
    obtain ⟨τ, t1, t2, t3, t4, t5, t6⟩ := M_remove_in (n := n) (k2 := M_remove_L2 n f) (σ := ρ) (show k + 1 < 20 by omega) (show 10 ≤ f by omega)
    rw [t1]
    have hfr : mf Kr F1 σ τ := (hB.up (fun x q => ⟨q.1, by omega⟩) (fun x q => q.elim)).tr ⟨fun x hx => ⟨t3 x (fun e => hx (by rw [e]; unfold Kr; omega)), t4 x (fun e => hx (by rw [e]; unfold Kr; omega))⟩, fun g _ => by rw [t2]⟩
    have row : ∀ x, 25 ≤ x → x ≤ 31 → ∀ y, τ.2.1 x 0 y = if y = k then σ.2.1 x 0 (k + 1) else σ.2.1 x 0 y := fun x h1 h2 y => by rw [t3 x (by omega)]; exact hA x h1 h2 y
    have e32 : ρ.2.1 32 0 = σ.2.1 32 0 := (hB.1 32 (by omega)).1
    have e33 : ρ.2.2.1 33 0 = σ.2.2.1 33 0 := (hB.1 33 (by omega)).2
    have hob : ∀ {j : Nat} {t : Tp}, j ≠ k → mT σ j t → (t_fs t).length ≤ 4 → mT τ j t := fun {j t} hj ht hlt => ht.copy (fun x a b => by rw [row x a b, if_neg hj]) (fun q hq => by rw [t5, t6, if_neg (by omega), if_neg (by omega), e32, e33]; exact ⟨rfl, rfl⟩) hlt
    refine wp_mono (ih (k + 1) f τ (by omega) (by omega) (by omega) (by rw [t2]; exact (hB.2 1 (fun q => q)).trans h1) (fun j t hj ht => ?_) (fun j t hj ht => hob (by omega) (h3 j t (by omega) ht) (hl t (List.mem_of_getElem? ht)))) (fun υ hυ => ⟨hfr.tr hυ.1, hυ.2⟩)
    have htm : t ∈ ts := (List.eraseIdx_sublist ts r).subset (List.mem_of_getElem? ht)
    by_cases e : j = k
    · subst e
      rw [List.getElem?_eraseIdx, if_neg (by omega)] at ht
      exact (h3 (j + 1) t (by omega) ht).copy (fun x a b => by rw [row x a b, if_pos rfl]) (fun q hq => by rw [t5, t6, if_pos (by omega), if_pos (by omega), e32, e33, show 4 * j + q + 4 = 4 * (j + 1) + q by omega]; exact ⟨rfl, rfl⟩) (hl t htm)
    · exact hob e (h2 j t (by omega) ht) (hl t htm)
theorem M_remove_s {n r f : Nat} {ts : List Tp} {σ : J} (h : mB σ ts) (hl : ∀ t ∈ ts, (t_fs t).length ≤ 4) (hr : r < ts.length) (hf : 60 ≤ f) : wp (M_remove n f (i r) σ) (fun τ => mf Kr F1 σ τ ∧ mB τ (ts.eraseIdx r)) := by
  have h20 := h.2.1
  unfold M_remove M_remove_b0
  refine M_remove_L hl h.2.1 hr (ts.length - 1 - r) r f σ (by omega) (Nat.le_refl _) (by omega) h.1 (fun j t hj ht => ?_) (fun j t hj ht => h.2.2 j t ht)
  rw [List.getElem?_eraseIdx, if_pos hj] at ht
  exact h.2.2 j t ht
