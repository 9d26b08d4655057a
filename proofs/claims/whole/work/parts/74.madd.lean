/-! The reference reports and adds. Ours. -/
def Ko : Nat → Prop := fun k => k = 28 ∨ (49 ≤ k ∧ k ≤ 53)
theorem mO_o {K F : Nat → Prop} {σ τ : J} {j k : Nat} {o : Od} (h : mO σ j o) (hj : j ≠ k) (hl : o.2.1.length ≤ 5) (hf : mf K F σ τ) (hk : ∀ k, 38 ≤ k → k ≤ 41 → ¬ K k) (h49 : ∀ y, y ≠ k → τ.2.1 49 0 y = σ.2.1 49 0 y) (h50 : ∀ y, (y < 5 * k ∨ 5 * k + 5 ≤ y) → τ.2.1 50 0 y = σ.2.1 50 0 y) (h51 : ∀ y, y ≠ k → τ.2.1 51 0 y = σ.2.1 51 0 y) : mO τ j o := by
  refine ⟨h.1.fr hf hk, by rw [h49 j hj]; exact h.2.1, fun q x hx => ?_, by rw [h51 j hj]; exact h.2.2.2⟩
  have hq := (List.getElem?_eq_some_iff.mp hx).1
  show τ.2.1 50 0 (5 * j + q) = x
  rw [h50 (5 * j + q) (by omega)]
  exact h.2.2.1 q x hx
/-- one order is changed -/
theorem mOs_set {K F : Nat → Prop} {σ τ : J} {done rest : List Od} {o o1 : Od} (h : mOs σ (done ++ o :: rest)) (hok : ∀ q ∈ done ++ o :: rest, q.2.1.length ≤ 5) (hf : mf K F σ τ) (hk : ∀ k, 38 ≤ k → k ≤ 41 → ¬ K k) (h30 : ¬ F 30) (h49 : ∀ y, y ≠ done.length → τ.2.1 49 0 y = σ.2.1 49 0 y) (h50 : ∀ y, (y < 5 * done.length ∨ 5 * done.length + 5 ≤ y) → τ.2.1 50 0 y = σ.2.1 50 0 y) (h51 : ∀ y, y ≠ done.length → τ.2.1 51 0 y = σ.2.1 51 0 y) (hO : mO τ done.length o1) : mOs τ (done ++ o1 :: rest) := by
  have hlen : (done ++ o1 :: rest).length = (done ++ o :: rest).length := by simp
  refine ⟨by rw [hf.2 30 h30, hlen]; exact h.1, fun j q hq => ?_, fun j hj1 hj2 => ?_⟩
  · by_cases e : j = done.length
    · subst e
      rw [get_mid] at hq
      cases hq
      exact hO
    · have hq2 : (done ++ o :: rest)[j]? = some q := by
        by_cases e2 : j < done.length
        · rw [List.getElem?_append_left e2] at hq ⊢; exact hq
        · rw [List.getElem?_append_right (by omega)] at hq ⊢
          obtain ⟨k, hk⟩ : ∃ k, j - done.length = k + 1 := ⟨j - done.length - 1, by omega⟩
          rw [hk] at hq ⊢
          exact hq
      exact mO_o (h.2.1 j q hq2) e (hok q (List.mem_of_getElem? hq2)) hf hk h49 h50 h51
  · rw [hlen] at hj1
    have hne : j ≠ done.length := by rw [List.length_append, List.length_cons] at hj1; omega
    rw [h49 j hne, h51 j hne]
    exact h.2.2 j hj1 hj2
theorem M_outside_L {n j : Nat} {ts : List Tp} {t : Tp} (hj : j < ts.length) (ht : ts[j]? = some t) (hfx : okFs (t_fs t)) :
    ∀ (rest done : List Od) (f : Nat) (σ : J), (∀ o ∈ done ++ rest, okGs o.1 ∧ o.2.1.length ≤ 5) → (done ++ rest).length ≤ 6 → mOs σ (done ++ rest) → mB σ ts → (∀ v, v < 4 → σ.2.1 52 0 v = im) → rest.length + 40 ≤ f → wp (M_outside_L9 n f (i j) (i done.length) σ) (fun τ => mf (fun k => 49 ≤ k ∧ k ≤ 53) (fun _ => False) σ τ ∧ mOs τ (done ++ a_report t rest) ∧ ∀ v, v < 4 → τ.2.1 52 0 v = im) := by
  intro rest
  induction rest with
  | nil =>
    intro done f σ hok hl hO hB h52 hf
    obtain ⟨f, rfl⟩ : ∃ g, f = g + 1 := ⟨f - 1, by omega⟩
    have h0 := hO.1
    rw [List.append_nil] at h0 hl
    show wp (M_outside_b9 n (M_outside_L9 n f) f (i j) (i done.length) σ) _
    unfold M_outside_b9
    rw [h0, if_pos (by rw [i_le (by omega) (by omega)]; omega), wp_some]
    exact ⟨mf.rf, hO, h52⟩
  | cons o rest ih =>
    intro done f σ hok hl hO hB h52 hf
    obtain ⟨f, rfl⟩ : ∃ g, f = g + 1 := ⟨f - 1, by omega⟩
    have hfl : rest.length + 40 ≤ f := by simp at hf; omega
    have h20 := hB.2.1
    have h0 := hO.1
    have hl' := hl
    rw [List.length_append, List.length_cons] at hl' h0
    have hmo := hO.2.1 done.length o get_mid
    have hoo := hok o (by simp)
    have hin : q_in (i done.length) 6 = true := by rw [i_in (by omega)]; omega
    have hok5 : ∀ q ∈ done ++ o :: rest, q.2.1.length ≤ 5 := fun q hq => (hok q hq).2
    -- on with the next order
    have go : ∀ (τ : J) (o1 : Od), mf (fun k => 49 ≤ k ∧ k ≤ 53) (fun _ => False) σ τ → (∀ v, v < 4 → τ.2.1 52 0 v = im) → okGs o1.1 ∧ o1.2.1.length ≤ 5 → mOs τ (done ++ o1 :: rest) → wp (M_outside_L9 n f (i j) (i done.length + 1) τ) (fun υ => mf (fun k => 49 ≤ k ∧ k ≤ 53) (fun _ => False) σ υ ∧ mOs υ (done ++ o1 :: a_report t rest) ∧ ∀ v, v < 4 → υ.2.1 52 0 v = im) := by
      intro τ o1 hf1 h1 hk1 hO1
      have e : done ++ o1 :: rest = (done ++ [o1]) ++ rest := by simp
      have e2 : (done ++ [o1]).length = done.length + 1 := by rw [List.length_append]; rfl
      rw [e] at hO1
      have := ih (done ++ [o1]) f τ (fun q hq => by
        rcases List.mem_append.mp hq with hq | hq
        · rcases List.mem_append.mp hq with hq | hq
          · exact hok q (List.mem_append_left _ hq)
          · rw [List.mem_singleton.mp hq]; exact hk1
        · exact hok q (List.mem_append_right _ (List.mem_cons_of_mem _ hq))) (by rw [List.length_append, e2]; omega) hO1 (hB.fr hf1 (fun k _ _ => by omega) (fun q => q)) h1 hfl
      rw [e2] at this
      rw [l1, i_add]
      refine wp_mono this (fun υ hυ => ⟨hf1.tr hυ.1, ?_, hυ.2.2⟩)
      have h9 := hυ.2.1
      rw [List.append_assoc] at h9
      exact h9
    show wp (M_outside_b9 n (M_outside_L9 n f) f (i j) (i done.length) σ) _
    unfold M_outside_b9 M_outside_b90
    simp only [hin, if_true, and1_1, bs_eq]
    rw [h0, if_neg (by rw [i_le (by omega) (by omega)]; omega), i_n (by omega), hmo.2.2.2]
    simp only [b01_0]
    obtain ⟨g, rs, ov⟩ := o
    have hl5 : rs.length ≤ 5 := hoo.2
    show wp _ (fun τ => mf (fun k => 49 ≤ k ∧ k ≤ 53) (fun _ => False) σ τ ∧ mOs τ (done ++ (if (a_fits g (t_fs t) [] bd0).isSome = true then a_add1 (t_num t) (g, rs, ov) else (g, rs, ov)) :: a_report t rest) ∧ ∀ v, v < 4 → τ.2.1 52 0 v = im)
    cases ov with
    | true =>
      rw [if_neg (show ¬ true = false by decide)]
      have e : (if (a_fits g (t_fs t) [] bd0).isSome = true then a_add1 (t_num t) (g, rs, true) else (g, rs, true)) = (g, rs, true) := by split <;> rfl
      rw [e]
      exact go σ (g, rs, true) mf.rf h52 hoo hO
    | false =>
      rw [if_pos rfl, l12, i_add]
      refine wp_bind (M_fits_s (n := n) (f := f) (p := 0) (nums := []) (bd := bd0) (by omega) (by omega) (by decide) hoo.1 hfx rfl (by omega) hmo.1 (hB.2.2 j t ht) (fun j m hm => by cases hm) hB (fun v hv => by rw [show 4 * 0 + v = v by omega, if_pos (h52 v hv)]; rfl)) (fun q hq => ?_)
      obtain ⟨q1, q2⟩ := q
      obtain ⟨d1, d2, -⟩ := hq
      replace d1 : q1 = _ := d1
      subst d1
      dsimp only at d2 ⊢
      have hf2 : mf (fun k => 49 ≤ k ∧ k ≤ 53) (fun _ => False) σ q2 := d2.1.up (fun k q => by omega) (fun f q => q)
      have h522 : ∀ v, v < 4 → q2.2.1 52 0 v = im := fun v hv => by rw [(d2.2 v (by omega)).1]; exact h52 v hv
      have hO2 : mOs q2 (done ++ (g, rs, false) :: rest) := hO.fr d2.1 (fun k _ _ => by omega) (by omega) (by omega) (by omega) (fun q => q)
      have hmo2 : mO q2 done.length (g, rs, false) := hO2.2.1 done.length _ get_mid
      cases hs : (a_fits g (t_fs t) [] bd0).isSome with
      | false =>
        rw [if_pos (show b01 false = 0 from rfl)]
        exact go q2 (g, rs, false) hf2 h522 hoo hO2
      | true =>
        rw [if_neg (show ¬ b01 true = 0 by decide), hmo2.2.1, if_pos rfl]
        dsimp only
        by_cases h5 : rs.length = 5
        · rw [if_pos (by rw [h5]; rfl), a_add1_ge h5]
          have hf3 : mf (fun k => 49 ≤ k ∧ k ≤ 53) (fun _ => False) σ (q_sA q2 51 0 (upd (q2.2.1 51 0) done.length 1)) := hf2.sA (by omega)
          refine go _ (g, rs, true) hf3 h522 hoo (mOs_set (K := fun k => k = 51) (F := fun _ => False) hO2 hok5 (mf.rf.sA rfl) (fun k _ _ => by omega) (fun q => q) (fun y hy => rfl) (fun y hy => rfl) (fun y hy => upd_ne hy) ⟨hmo2.1, hmo2.2.1, hmo2.2.2.1, upd_at⟩)
        · rw [if_neg (by rw [l5, i_eq (by omega) (by decide)]; exact h5), a_add1_lt (show rs.length < 5 by omega), if_pos (by rw [i_in (by omega)]; omega), l5, i_mul, i_add, if_pos (by rw [i_in (by omega)]; omega), i_n (by omega), i_n (by omega)]
          have hn25 : q2.2.1 25 0 j = t_num t := by rw [(d2.1.1 25 (by omega)).1]; exact (hB.2.2 j t ht).1
          rw [hn25]
          show wp (M_outside_L9 n f (i j) (i done.length + 1) (q_sA (q_sA q2 50 0 (upd (q2.2.1 50 0) (5 * done.length + rs.length) (t_num t))) 49 0 (upd (q2.2.1 49 0) done.length (q2.2.1 49 0 done.length + 1)))) _
          have hf3 : mf (fun k => 49 ≤ k ∧ k ≤ 53) (fun _ => False) σ (q_sA (q_sA q2 50 0 (upd (q2.2.1 50 0) (5 * done.length + rs.length) (t_num t))) 49 0 (upd (q2.2.1 49 0) done.length (q2.2.1 49 0 done.length + 1))) := (hf2.sA (by omega)).sA (by omega)
          refine go _ (g, rs ++ [t_num t], false) hf3 h522 ⟨hoo.1, by show (rs ++ [t_num t]).length ≤ 5; rw [List.length_append]; show rs.length + 1 ≤ 5; omega⟩ (mOs_set (K := fun k => 49 ≤ k ∧ k ≤ 50) (F := fun _ => False) hO2 hok5 ((mf.rf.sA ⟨by decide, by decide⟩).sA ⟨by decide, by decide⟩) (fun k _ _ => by omega) (fun q => q) (fun y hy => upd_ne hy) (fun y hy => upd_ne (by omega)) (fun y hy => rfl) ⟨hmo2.1, ?_, fun q x hx => ?_, hmo2.2.2.2⟩)
          · show upd (q2.2.1 49 0) done.length (q2.2.1 49 0 done.length + 1) done.length = i (rs ++ [t_num t]).length
            rw [upd_at, hmo2.2.1, l1, i_add, List.length_append]; rfl
          · show upd (q2.2.1 50 0) (5 * done.length + rs.length) (t_num t) (5 * done.length + q) = x
            replace hx : (rs ++ [t_num t])[q]? = some x := hx
            by_cases e : q = rs.length
            · subst e
              rw [upd_at]
              rw [List.getElem?_append_right (Nat.le_refl _), Nat.sub_self] at hx
              cases hx; rfl
            · have hql := (List.getElem?_eq_some_iff.mp hx).1
              rw [List.length_append] at hql
              replace hql : q < rs.length + 1 := hql
              rw [List.getElem?_append_left (by omega)] at hx
              rw [upd_ne (by omega)]
              exact hmo2.2.2.1 q x hx
theorem mT_28 {σ : J} {j : Nat} {t : Tp} (h : mT σ j t) : mT (q_sA σ 28 0 (upd (σ.2.1 28 0) j im)) j (t_setP t im im) := by
  obtain ⟨g1, g2, g3, g4, g5, g6, g7⟩ := h
  exact ⟨g1, g2, upd_at, fun e => absurd rfl e, g5, g6, g7⟩
theorem mT_28o {σ : J} {j q : Nat} {t : Tp} {v : Int32} (h : mT σ q t) (hq : q ≠ j) : mT (q_sA σ 28 0 (upd (σ.2.1 28 0) j v)) q t := by
  obtain ⟨g1, g2, g3, g4, g5, g6, g7⟩ := h
  refine ⟨g1, g2, ?_, g4, g5, g6, g7⟩
  show upd (σ.2.1 28 0) j v q = _
  rw [upd_ne hq]; exact g3
theorem M_outside_s {n f j : Nat} {ts : List Tp} {t : Tp} {os : List Od} {σ : J} (ht : ts[j]? = some t) (hfx : okFs (t_fs t)) (hok : ∀ o ∈ os, okGs o.1 ∧ o.2.1.length ≤ 5) (hl : os.length ≤ 6) (hO : mOs σ os) (hB : mB σ ts) (h52 : ∀ v, v < 4 → σ.2.1 52 0 v = im) (hf : 60 ≤ f) : wp (M_outside n f (i j) σ) (fun τ => mf Ko (fun _ => False) σ τ ∧ mB τ (ts.set j (t_setP t im im)) ∧ mOs τ (a_report (t_setP t im im) os) ∧ ∀ v, v < 4 → τ.2.1 52 0 v = im) := by
  have hj := (List.getElem?_eq_some_iff.mp ht).1
  have h20 := hB.2.1
  unfold M_outside M_outside_b0
  rw [if_pos (by rw [i_in (by omega)]; omega), bs_eq, i_n (by omega)]
  have hf1 : mf (fun k => k = 28) (fun _ => False) σ (q_sA σ 28 0 (upd (σ.2.1 28 0) j (-1))) := mf.rf.sA rfl
  have hB1 : mB (q_sA σ 28 0 (upd (σ.2.1 28 0) j (-1))) (ts.set j (t_setP t im im)) := mB_set hB hj rfl (mT_28 (hB.2.2 j t ht)) (fun q u hq _ hu => mT_28o hu hq)
  refine wp_mono (M_outside_L (n := n) (t := t_setP t im im) (by rw [List.length_set]; exact hj) (List.getElem?_set_self hj) hfx os [] f _ hok hl (hO.fr hf1 (fun k _ _ => by omega) (by omega) (by omega) (by omega) (fun q => q)) hB1 h52 (by omega)) (fun τ hτ => ⟨(hf1.up (fun k q => Or.inl q) (fun f q => q)).tr (hτ.1.up (fun k q => Or.inr q) (fun f q => q)), hB1.fr hτ.1 (fun k _ _ => by omega) (fun q => q), hτ.2⟩)
