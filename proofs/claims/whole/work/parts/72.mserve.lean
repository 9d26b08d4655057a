/-! The reference serves its line. Ours. -/
def okBd (bd : Bd) : Prop := ∀ v x, bd v = some x → okF x
theorem a_holds_ok {g : Fm} {x : FV} {nums : List Int32} {bd bd1 : Bd} (h : a_holds g x nums bd = some bd1) (hx : okF x) (hb : okBd bd) : okBd bd1 := by
  unfold a_holds at h
  have hs : ∀ {c : Prop} {d : Decidable c}, (@ite (Option Bd) c d (some bd) none) = some bd1 → okBd bd1 := by
    intro c d hc
    by_cases q : c
    · rw [if_pos q] at hc; cases hc; exact hb
    · rw [if_neg q] at hc; cases hc
  have hn : ∀ {c : Prop} {d : Decidable c}, (@ite (Option Bd) c d none (some bd)) = some bd1 → okBd bd1 := by
    intro c d hc
    by_cases q : c
    · rw [if_pos q] at hc; cases hc
    · rw [if_neg q] at hc; cases hc; exact hb
  split at h
  · exact hs h
  split at h
  · exact hs h
  split at h
  · exact hn h
  split at h
  · exact hs h
  split at h
  · exact hs h
  split at h
  · exact hs h
  split at h
  · split at h
    · cases h
      intro v y hy
      replace hy : (if v = _ then some x else bd v) = some y := hy
      split at hy
      · cases hy; exact hx
      · exact hb v y hy
    · exact hs h
  split at h
  · split at h
    · cases h
    · exact hs h
  split at h
  · exact hs h
  · cases h; exact hb
theorem a_fits_ok {nums : List Int32} : ∀ {gs : List Fm} {xs : List FV} {bd bd1 : Bd}, a_fits gs xs nums bd = some bd1 → (∀ x ∈ xs, okF x) → okBd bd → okBd bd1 := by
  intro gs
  induction gs with
  | nil =>
    intro xs bd bd1 h hx hb
    cases xs with
    | nil => cases h; exact hb
    | cons _ _ => cases h
  | cons g gs ih =>
    intro xs bd bd1 h hx hb
    cases xs with
    | nil => cases h
    | cons x xs =>
      replace h : (a_holds g x nums bd).bind (fun bd1 => a_fits gs xs nums bd1) = some bd1 := h
      obtain ⟨b, h1, h2⟩ := Option.bind_eq_some_iff.mp h
      exact ih h2 (fun y hy => hx y (List.mem_cons_of_mem _ hy)) (a_holds_ok h1 (hx x List.mem_cons_self) hb)
theorem a_dfs_ok {s : Int32} {ts : List Tp} {pt : Nat → List Fm} (hts : ∀ t ∈ ts, ∀ x ∈ t_fs t, okF x) : ∀ {k p : Nat} {nums : List Int32} {bd : Bd} {r : Fq}, a_dfs s ts pt k p nums bd = some r → okBd bd → nums.Nodup → okBd r.2 ∧ r.1.Nodup := by
  intro k
  induction k with
  | zero => intro p nums bd r h hb hn; cases h; exact ⟨hb, hn⟩
  | succ k ih =>
    intro p nums bd r h hb hn
    unfold a_dfs at h
    obtain ⟨t, ht, h2⟩ := List.exists_of_findSome?_eq_some h
    split at h2
    · rename_i hc
      obtain ⟨b, h3, h4⟩ := Option.bind_eq_some_iff.mp h2
      refine ih h4 (a_fits_ok h3 (hts t ht) hb) ?_
      rw [List.nodup_append]
      exact ⟨hn, by simp, fun a ha c hcc => by rw [List.mem_singleton.mp hcc]; exact fun e => hc.2 (e ▸ ha)⟩
    · cases h2
theorem kind_ge {x : FV} (h : okF x) : 0 ≤ x.1 := by rcases h with q | q | q <;> rw [q] <;> decide
/-- the numbers found -/
theorem M_keep_8 {n s joined : Nat} {tk : Bool} {ts : List Tp} {nums : List Int32} {Q : J → Prop} (hs : s < 4) (hj : joined ≤ 3) (hnl : nums.length = joined) :
    ∀ (m q f : Nat) (σ : J), q + m = joined → m + 100 ≤ f → mAt σ ts nums → mB σ ts → (∀ j, j < 3 → σ.2.1 46 0 (3 * s + j) = if j < q then nums.getD j im else im) → (∀ (τ : J) (f1 : Nat), 99 ≤ f1 → mf (fun k => k = 46) (fun _ => False) σ τ → (∀ y, (y < 3 * s ∨ 3 * s + 3 ≤ y) → τ.2.1 46 0 y = σ.2.1 46 0 y) → (∀ j, j < 3 → τ.2.1 46 0 (3 * s + j) = nums.getD j im) → wp (M_keep_L46 n f1 (i s) (i joined) (b01 tk) (i 0) τ) Q) → wp (M_keep_L8 n f (i s) (i joined) (b01 tk) (i q) σ) Q := by
  intro m
  induction m with
  | zero =>
    intro q f σ hq hf hA hB h46 kk
    obtain ⟨f, rfl⟩ : ∃ g, f = g + 1 := ⟨f - 1, by omega⟩
    show wp (M_keep_b8 n (M_keep_L8 n f) f (i s) (i joined) (b01 tk) (i q) σ) _
    unfold M_keep_b8
    rw [if_pos (by rw [i_le (by omega) (by omega)]; omega)]
    refine kk σ f (by omega) mf.rf (fun _ _ => rfl) (fun j hj3 => ?_)
    rw [h46 j hj3]
    split
    · rfl
    · rw [List.getD_eq_getElem?_getD, List.getElem?_eq_none (by omega)]; rfl
  | succ m ih =>
    intro q f σ hq hf hA hB h46 kk
    obtain ⟨f, rfl⟩ : ∃ g, f = g + 1 := ⟨f - 1, by omega⟩
    have hnq : nums[q]? = some nums[q] := List.getElem?_eq_getElem (by omega)
    obtain ⟨a, t, a1, a2, a3, a4⟩ := hA q _ hnq
    show wp (M_keep_b8 n (M_keep_L8 n f) f (i s) (i joined) (b01 tk) (i q) σ) _
    unfold M_keep_b8
    rw [if_neg (by rw [i_le (by omega) (by omega)]; omega), if_pos (by rw [i_in (by omega)]; omega), i_n (by omega), a1, if_pos (by rw [i_in (by omega)]; exact a2), l3, i_mul, i_add, if_pos (by rw [i_in (by omega)]; omega), bs_eq, i_n (by omega), i_n (by omega), (hB.2.2 a t a3).1, a4, l1, i_add]
    have hfr : mf (fun k => k = 46) (fun _ => False) σ (q_sA σ 46 0 (upd (σ.2.1 46 0) (3 * s + q) nums[q])) := mf.rf.sA rfl
    refine ih (q + 1) f _ (by omega) (by omega) hA (hB.fr hfr (fun k _ _ => by omega) (fun q => q)) (fun j hj3 => ?_) (fun τ f1 hf1 k1 k2 k3 => kk τ f1 hf1 (hfr.tr k1) (fun y hy => ?_) k3)
    · show upd (σ.2.1 46 0) (3 * s + q) nums[q] (3 * s + j) = _
      by_cases e : j = q
      · subst e
        rw [upd_at, if_pos (by omega), List.getD_eq_getElem?_getD, hnq]; rfl
      · rw [upd_ne (by omega), h46 j hj3]
        by_cases e2 : j < q
        · rw [if_pos e2, if_pos (by omega)]
        · rw [if_neg e2, if_neg (by omega)]
    · rw [k2 y hy]
      show upd (σ.2.1 46 0) (3 * s + q) nums[q] y = _
      rw [upd_ne (by omega)]
/-- what was bound -/
theorem M_keep_46 {n s joined : Nat} {tk : Bool} {bd : Bd} {Q : J → Prop} (hs : s < 4) (hj : joined ≤ 3) (hbo : okBd bd) :
    ∀ (m q f : Nat) (σ : J), q + m = 4 → m + 90 ≤ f → mbd σ joined bd → (∀ (τ : J) (f1 : Nat), 89 ≤ f1 → mf (fun k => 47 ≤ k ∧ k ≤ 48) (fun _ => False) σ τ → (∀ y, (y < 4 * s + q ∨ 4 * s + 4 ≤ y) → τ.2.1 47 0 y = σ.2.1 47 0 y ∧ τ.2.2.1 48 0 y = σ.2.2.1 48 0 y) → (∀ v, q ≤ v → v < 4 → τ.2.1 47 0 (4 * s + v) = (match bd v with | some x => x.1 | none => im) ∧ τ.2.2.1 48 0 (4 * s + v) = (match bd v with | some x => x.2 | none => 0)) → wp (M_keep_L123 n f1 (i s) (i joined) (b01 tk) (i 0) τ) Q) → wp (M_keep_L46 n f (i s) (i joined) (b01 tk) (i q) σ) Q := by
  intro m
  induction m with
  | zero =>
    intro q f σ hq hf hb kk
    obtain ⟨f, rfl⟩ : ∃ g, f = g + 1 := ⟨f - 1, by omega⟩
    show wp (M_keep_b46 n (M_keep_L46 n f) f (i s) (i joined) (b01 tk) (i q) σ) _
    unfold M_keep_b46
    rw [if_pos (by rw [l4, i_le (by decide) (by omega)]; omega)]
    exact kk σ f (by omega) mf.rf (fun _ _ => ⟨rfl, rfl⟩) (fun v h1 h2 => by omega)
  | succ m ih =>
    intro q f σ hq hf hb kk
    obtain ⟨f, rfl⟩ : ∃ g, f = g + 1 := ⟨f - 1, by omega⟩
    have hA : q_in (i (4 * joined + q)) 16 = true := by rw [i_in (by omega)]; omega
    have hC : q_in (i (4 * s + q)) 16 = true := by rw [i_in (by omega)]; omega
    show wp (M_keep_b46 n (M_keep_L46 n f) f (i s) (i joined) (b01 tk) (i q) σ) _
    unfold M_keep_b46 M_keep_b113
    rw [if_neg (by rw [l4, i_le (by decide) (by omega)]; omega), l4, i_mul, i_mul, i_add, i_add]
    simp only [hA, hC, if_true, bs_eq]
    rw [i_n (by omega), i_n (by omega), l1, i_add]
    have hbq := hb q (by omega)
    -- the one that is written
    have fin : ∀ v48 : Int64, v48 = (match bd q with | some x => x.2 | none => 0) → wp (M_keep_L46 n f (i s) (i joined) (b01 tk) (i (q + 1)) (q_sL (q_sA σ 47 0 (upd (σ.2.1 47 0) (4 * s + q) (σ.2.1 52 0 (4 * joined + q)))) 48 0 (vp_updL (σ.2.2.1 48 0) (4 * s + q) v48))) Q := by
      intro v48 h48
      have hfr : mf (fun k => 47 ≤ k ∧ k ≤ 48) (fun _ => False) σ (q_sL (q_sA σ 47 0 (upd (σ.2.1 47 0) (4 * s + q) (σ.2.1 52 0 (4 * joined + q)))) 48 0 (vp_updL (σ.2.2.1 48 0) (4 * s + q) v48)) := (mf.rf.sA ⟨by decide, by decide⟩).sL ⟨by decide, by decide⟩
      refine ih (q + 1) f _ (by omega) (by omega) hb (fun τ f1 hf1 k1 k2 k3 => kk τ f1 hf1 (hfr.tr k1) (fun y hy => ?_) (fun v v1 v2 => ?_))
      · obtain ⟨a1, a2⟩ := k2 y (by omega)
        rw [a1, a2]
        show upd (σ.2.1 47 0) (4 * s + q) _ y = _ ∧ vp_updL (σ.2.2.1 48 0) (4 * s + q) v48 y = _
        unfold upd vp_updL
        rw [if_neg (by omega), if_neg (by omega)]
        exact ⟨rfl, rfl⟩
      · by_cases e : v = q
        · subst e
          obtain ⟨a1, a2⟩ := k2 (4 * s + v) (by omega)
          rw [a1, a2]
          show upd (σ.2.1 47 0) (4 * s + v) _ (4 * s + v) = _ ∧ vp_updL (σ.2.2.1 48 0) (4 * s + v) v48 (4 * s + v) = _
          unfold upd vp_updL
          rw [if_pos rfl, if_pos rfl]
          refine ⟨?_, h48⟩
          by_cases h0 : σ.2.1 52 0 (4 * joined + v) = im
          · rw [hbq, if_pos h0]; exact h0
          · rw [hbq, if_neg h0]
        · exact k3 v (by omega) v2
    show wp (if 0 ≤ σ.2.1 52 0 (4 * joined + q) then M_keep_L46 n f (i s) (i joined) (b01 tk) (i (q + 1)) (q_sL (q_sA σ 47 0 (upd (σ.2.1 47 0) (4 * s + q) (σ.2.1 52 0 (4 * joined + q)))) 48 0 (vp_updL (σ.2.2.1 48 0) (4 * s + q) (σ.2.2.1 53 0 (4 * joined + q)))) else M_keep_L46 n f (i s) (i joined) (b01 tk) (i (q + 1)) (q_sL (q_sA σ 47 0 (upd (σ.2.1 47 0) (4 * s + q) (σ.2.1 52 0 (4 * joined + q)))) 48 0 (vp_updL (σ.2.2.1 48 0) (4 * s + q) 0))) Q
    by_cases h0 : σ.2.1 52 0 (4 * joined + q) = im
    · rw [if_neg (by rw [h0]; decide)]
      exact fin 0 (by rw [hbq, if_pos h0])
    · have hge := kind_ge (hbo q _ (hbq.trans (if_neg h0)))
      rw [if_pos hge]
      exact fin _ (by rw [hbq, if_neg h0])
/-- what keeping may change -/
def Kk : Nat → Prop := fun k => Kr k ∨ Kf k
theorem M_keep_s {n s joined d f : Nat} {tk : Bool} {ts : List Tp} {r : Fq} {σ : J} (hs : s < 4) (hj : joined ≤ 3) (hnl : r.1.length = joined) (hd : d ≤ 4) (hf : 150 ≤ f) (hA : mAt σ ts r.1) (hb : mbd σ joined r.2) (hbo : okBd r.2) (hrn : r.1.Nodup) (hB : mB σ ts) (hnd : (ts.map t_num).Nodup) (hfs : ∀ t ∈ ts, (t_fs t).length ≤ 4) (h34 : σ.2.1 34 0 s = i d) : wp (M_keep n f (i s) (i joined) (b01 tk) σ) (fun τ => mN τ s r ∧ othF s σ τ ∧ mB τ (a_grant s d tk ts r) ∧ mf Kk F1 σ τ) := by
  unfold M_keep M_keep_b0
  refine wp_bind (M_clear_s (n := n) (f := f) hs (by omega)) (fun τ hτ => ?_)
  obtain ⟨c1, c2, c3⟩ := hτ
  have hA1 : mAt τ ts r.1 := fun j m hm => by rw [(c2.1 54 (by unfold Kf; omega)).1]; exact hA j m hm
  have hB1 : mB τ ts := hB.fr c2 (fun k _ _ => by unfold Kf; omega) (fun q => q)
  have hb1 : mbd τ joined r.2 := fun v hv => by rw [(c2.1 52 (by unfold Kf; omega)).1, (c2.1 53 (by unfold Kf; omega)).2]; exact hb v hv
  refine M_keep_8 (n := n) hs hj hnl joined 0 f τ (by omega) (by omega) hA1 hB1 (fun j hj3 => by rw [c1.1 j hj3]; rfl) (fun υ f1 hf1 k1 k2 k3 => ?_)
  have hb2 : mbd υ joined r.2 := fun v hv => by rw [(k1.1 52 (by omega)).1, (k1.1 53 (by omega)).2]; exact hb1 v hv
  refine M_keep_46 (n := n) hs hj hbo 4 0 f1 υ (by decide) (by omega) hb2 (fun ρ f2 hf2 p1 p2 p3 => ?_)
  have hB3 : mB ρ ts := (hB1.fr k1 (fun k _ _ => by omega) (fun q => q)).fr p1 (fun k _ _ => by omega) (fun q => q)
  have h46 : ∀ j, j < 3 → ρ.2.1 46 0 (3 * s + j) = r.1.getD j im := fun j hj3 => by rw [(p1.1 46 (by omega)).1]; exact k3 j hj3
  have h34' : ρ.2.1 34 0 s = i d := by rw [(p1.1 34 (by omega)).1, (k1.1 34 (by omega)).1, (c2.1 34 (by unfold Kf; omega)).1]; exact h34
  have hN : mN ρ s r := ⟨h46, fun v hv => p3 v (Nat.zero_le _) hv⟩
  have hoth : othF s σ ρ := c3.tr ⟨fun y hy => by rw [(p1.1 46 (by omega)).1]; exact k2 y hy, fun y hy => by
    obtain ⟨a1, a2⟩ := p2 y (by omega)
    rw [a1, a2, (k1.1 47 (by omega)).1, (k1.1 48 (by omega)).2]
    exact ⟨rfl, rfl⟩⟩
  have hfr : mf Kk F1 σ ρ := ((c2.up (fun k q => Or.inr q) (fun f q => q.elim)).tr (k1.up (fun k q => Or.inr (by unfold Kf; omega)) (fun f q => q.elim))).tr (p1.up (fun k q => Or.inr (by unfold Kf; omega)) (fun f q => q.elim))
  refine wp_mono (M_keep_take (n := n) (tk := tk) hs hj hnl hd r.1 0 f2 ts ρ rfl (by omega) (by omega) hB3 hnd hfs hrn (fun m hm => ?_) h46 h34') (fun ω hω => ⟨hN.fr hω.1 (by unfold Kr; omega) (by unfold Kr; omega) (by unfold Kr; omega), hoth.tr ⟨fun y _ => by rw [(hω.1.1 46 (by unfold Kr; omega)).1], fun y _ => by rw [(hω.1.1 47 (by unfold Kr; omega)).1, (hω.1.1 48 (by unfold Kr; omega)).2]; exact ⟨rfl, rfl⟩⟩, hω.2, hfr.tr (hω.1.up (fun k q => Or.inl q) (fun f q => q))⟩)
  obtain ⟨j, hj2⟩ := List.getElem?_of_mem hm
  obtain ⟨a, t, -, -, a3, a4⟩ := hA j m hj2
  exact ⟨t, List.mem_of_getElem? a3, a4⟩
