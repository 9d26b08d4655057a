/-! The class's calls: swap, fold, commit, abandon. Ours. -/
theorem grant_len {s d : Nat} {tk : Bool} {ts : List Tp} {r : Fq} : (a_grant s d tk ts r).length ≤ ts.length := by
  unfold a_grant
  split
  · generalize r.1 = l
    induction l generalizing ts with
    | nil => exact Nat.le_refl _
    | cons m l ih =>
      refine Nat.le_trans (ih (ts := a_take s d ts m)) ?_
      unfold a_take
      split
      · exact List.length_filter_le _ _
      · rw [List.length_map]; exact Nat.le_refl _
  · exact Nat.le_refl _
theorem a_dfs_mem {s : Int32} {ts : List Tp} {pt : Nat → List Fm} : ∀ {k p : Nat} {nums : List Int32} {bd : Bd} {r : Fq}, a_dfs s ts pt k p nums bd = some r → (∀ m ∈ nums, ∃ t ∈ ts, t_num t = m) → ∀ m ∈ r.1, ∃ t ∈ ts, t_num t = m := by
  intro k
  induction k with
  | zero => intro p nums bd r h hm; cases h; exact hm
  | succ k ih =>
    intro p nums bd r h hm
    unfold a_dfs at h
    obtain ⟨t, ht, h2⟩ := List.exists_of_findSome?_eq_some h
    split at h2
    · obtain ⟨b, h3, h4⟩ := Option.bind_eq_some_iff.mp h2
      refine ih h4 (fun m hm2 => ?_)
      rcases List.mem_append.mp hm2 with q | q
      · exact hm m q
      · rw [List.mem_singleton.mp q]; exact ⟨t, ht, rfl⟩
    · cases h2
/-- one that is taken at once leaves a place -/
theorem grant_lt {s : Nat} {ts : List Tp} {pt : Nat → List Fm} {r : Fq} (h : a_search s ts pt 1 = some r) (hnd : (ts.map t_num).Nodup) : (a_grant s 0 true ts r).length < ts.length := by
  have hl := a_search_len h
  have hm := a_dfs_mem h (fun m hm => by cases hm)
  unfold a_grant
  rw [if_pos rfl]
  match hr : r.1, hl with
  | [m], _ =>
    obtain ⟨t, ht, e⟩ := hm m (by rw [hr]; exact List.mem_singleton_self m)
    obtain ⟨pre, post, rfl⟩ := List.append_of_mem ht
    show (a_take s 0 (pre ++ t :: post) m).length < _
    unfold a_take
    rw [if_pos rfl, filter_mid hnd e, List.length_append, List.length_append, List.length_cons]
    omega
theorem JB_swap_s {n f : Nat} {x : Int32} {a : Sq} {σ : J} (hA : cA n σ a) (hw : wfA n a) (hb : a.2.1 < 1000) (hf : 120 ≤ f) : wp (JB_swap n f x σ) (fun q => q.1 = (o_swap n x a).1 ∧ cA n q.2 (o_swap n x a).2 ∧ wfA n (o_swap n x a).2) := by
  obtain ⟨now, lat, ts, line, dl, dr, pt, la, jo, tk, fn, os⟩ := a
  replace hb : lat < 1000 := hb
  unfold JB_swap JB_swap_b0 JB_swap_b24 o_swap
  rw [JB_readySession_s hA hw, some_bind]
  dsimp only
  cases hfi : a_first n line x with
  | inr e => rw [wp_some]; exact ⟨rfl, hA, hw⟩
  | inl s =>
    have hw' := hw
    obtain ⟨w1, w2, w3, w4, w5, w6, w7, w8, w9, w10, w11, w12, w13⟩ := hw'
    obtain ⟨hs, hxs, hml⟩ := first_i w13 hfi
    have hA' := hA
    obtain ⟨g1, g2, g3, g4, g5, g6, g7, g8, g9, g10, g11, g12⟩ := hA'
    have hdl := (w5 s hs).1
    have hd4 := w4 s hs
    have h20 := g4.len
    dsimp only
    rw [if_pos (by rw [blt_eq]; omega), (g7 s hs).1]
    by_cases hd : dr s = []
    · rw [hd, if_pos (show i ([] : List FV).length = 0 from rfl), if_neg (fun q => q.1 rfl), wp_some]
      exact ⟨rfl, hA, hw⟩
    · have hd0 : (dr s).length ≠ 0 := fun q => hd (List.length_eq_zero_iff.mp q)
      rw [if_neg (by rw [l0, i_eq (by omega) (by decide)]; exact hd0), Session_hasPatterns_s (n := n) hs g1 g8 (fun p hp => w6 s p hs hp) (by omega), some_bind, hasP_1, isE]
      dsimp only
      by_cases hp : pt s 0 ≠ []
      · rw [decide_eq_true hp, if_neg (show ¬ b01 true = 0 by decide), if_pos (show dr s ≠ [] ∧ pt s 0 ≠ [] from ⟨hd, hp⟩), l1]
        refine wp_bind (JB_searchFor_s (n := n) (joined := 1) hs (fun p hp => w6 s p hs hp) (w1.s w11) (by omega) (by decide) g1 g4 g8) (fun q hq => ?_)
        obtain ⟨q1, q2⟩ := q
        obtain ⟨d1, d2, d3⟩ := hq
        replace d1 : q1 = _ := d1
        subst d1
        dsimp only at d2 d3 ⊢
        have hA2 := hA.fr d2 Zt12
        unfold JB_swap_b68
        cases hse : a_search s ts (pt s) 1 with
        | none =>
          rw [if_pos (show b01 (none : Option Fq).isSome = 0 from rfl)]
          refine wp_bind (Session_ask_s (n := n) (x := 1) (b := true) hA2 hw hs hml (by omega)) (fun τ hτ => ?_)
          rw [if_pos (show b01 (none : Option Fq).isSome = 0 from rfl), wp_some]
          exact ⟨rfl, hτ.1, wfA_ask hw⟩
        | some r =>
          have hn1 : ¬ b01 (some r).isSome = 0 := (by decide : ¬ b01 true = 0)
          rw [if_neg hn1]
          have fin : (dl s = 0 ∨ ts.length < 20) → wp ((Session_ask n f s 1 1 q2).bind fun q5 => if b01 (some r).isSome = 0 then some ((.inl (-1) : Int32 ⊕ Nat), q5) else (JB_grant n f s q5).bind fun q6 => (JB_placeDraft n f s 0 q6).bind fun q7 => some (.inl q7.1, q7.2)) (fun q => q.1 = (.inl (i (lat + 1)) : Int32 ⊕ Nat) ∧ cA n q.2 (a_put s (i 0) (now, lat, a_grant s (dl s) true ts r, line, dl, dr, pt, va_up la s (i 0), jo, tk, va_up fn s r, os)) ∧ wfA n (a_put s (i 0) (now, lat, a_grant s (dl s) true ts r, line, dl, dr, pt, va_up la s (i 0), jo, tk, va_up fn s r, os))) := by
            intro hroom
            refine wp_bind (Session_ask_s (n := n) (x := 1) (b := true) hA2 hw hs hml (by omega)) (fun τ hτ => ?_)
            obtain ⟨hA3, t6, t7, t8⟩ := hτ
            rw [if_neg hn1]
            refine wp_bind (JB_grant_s (n := n) (f := f) (tk := true) (r := r) (joined := 1) hs (by decide) (a_search_len hse) hd4 (by omega) hA3.2.2.2.1 w1.1 ((d3 r hse).fr t8 (by omega) (by omega) (by omega) (by omega)) t6 t7 (hA3.1.2.1 s hs) (hA3.2.2.2.2.2.1 s hs)) (fun υ hυ => ?_)
            have hA4 := cA_grant hA3 hυ.1 hυ.2.1 hυ.2.2.1
            rw [va_up2] at hA4
            have hw4 : wfA n (now, lat, a_grant s (dl s) true ts r, line, dl, dr, pt, va_up la s (i 0), jo, tk, va_up fn s r, os) := wfA_grant (wfA_ask hw (fn1 := fn)) hs
            have hlen : (a_grant s (dl s) true ts r).length < 20 := by
              rcases hroom with e | e
              · rw [e]
                have := grant_lt hse w1.1
                omega
              · exact Nat.lt_of_le_of_lt grant_len e
            refine wp_bind (JB_placeDraft_s (n := n) (e := 0) hA4 hw4 hs ⟨0, by omega, rfl⟩ hb hlen hf) (fun ρ hρ => ?_)
            rw [wp_some, hρ.1]
            exact ⟨rfl, hρ.2⟩
          rw [hA2.2.2.2.2.2.1 s hs]
          dsimp only
          by_cases hz : dl s = 0
          · rw [if_pos (by rw [hz]; decide), if_neg (fun q => q.1 hz)]
            exact fin (Or.inl hz)
          · rw [if_neg (by rw [l0, i_le (by omega) (by decide)]; omega), Board_isFull_s hA2.2.2.2.1 (by omega), some_bind]
            dsimp only
            by_cases hr : ts.length < 20
            · rw [decide_eq_false (show ¬ 20 ≤ ts.length by omega), if_pos (show b01 false = 0 from rfl), if_neg (fun q => q.2 hr)]
              exact fin (Or.inr hr)
            · rw [decide_eq_true (show 20 ≤ ts.length by omega), if_neg (show ¬ b01 true = 0 by decide), if_pos ⟨hz, hr⟩, wp_some]
              exact ⟨rfl, hA2, hw⟩
      · rw [decide_eq_false hp, if_pos (show b01 false = 0 from rfl), if_neg (fun q => hp q.2), wp_some]
        exact ⟨rfl, hA, hw⟩
theorem JB_fold_L {n u s fi : Nat} {x w : Int32} {pt : Nat → Nat → List Fm} (hs : s < n) (hx : x = i s) (hfi : fi < 4) (hok : okGs (pt s 0)) (hu : u ≤ 20) :
    ∀ (m j f : Nat) (r : Int64) (an : Bool) (ts : List Tp) (σ : J), σ.1 2 1 0 = i u → okP (σ.2.2.2 3 0) → Rw (σ.2.2.2 3 0) σ j m ts → j + m = u → m + 20 ≤ f → (∀ t ∈ ts, (t_fs t).length ≤ 4) → cSt n σ → cPs n σ pt → wp (JB_fold_L51 n f x (i fi) w s r (b01 an) (i j) σ) (fun q => q.1 = .inl (ts.foldl (a_fold1 s (pt s 0) fi w) (r, an)).1 ∧ fr Zt σ q.2) := by
  intro m
  induction m with
  | zero =>
    intro j f r an ts σ hu1 hP h hj hf hl hst hG
    obtain ⟨f, rfl⟩ : ∃ g, f = g + 1 := ⟨f - 1, by omega⟩
    rw [show ts = [] from h]
    unfold JB_fold_L51 JB_fold_b51
    rw [hu1, if_pos (by rw [i_le (by omega) (by omega)]; omega), wp_some]
    exact ⟨rfl, fr.rf⟩
  | succ m ih =>
    intro j f r an ts σ hu1 hP h hj hf hl hst hG
    obtain ⟨f, rfl⟩ : ∃ g, f = g + 1 := ⟨f - 1, by omega⟩
    have hPj : Nat.blt (σ.2.2.2 3 0 j) 20 = true := by rw [blt_eq]; exact hP.1 j (by omega)
    have hin : q_in (i j) 20 = true := by rw [i_in (by omega)]; omega
    have go : ∀ (τ : J) (ts2 : List Tp) (r1 : Int64) (an1 : Bool), fr Zt σ τ → Rw (σ.2.2.2 3 0) σ (j + 1) m ts2 → (∀ t ∈ ts2, (t_fs t).length ≤ 4) → wp (JB_fold_L51 n f x (i fi) w s r1 (b01 an1) (i (j + 1)) τ) (fun q => q.1 = .inl (ts2.foldl (a_fold1 s (pt s 0) fi w) (r1, an1)).1 ∧ fr Zt σ q.2) := by
      intro τ ts2 r1 an1 hf1 hR hl2
      have e3 : τ.2.2.2 3 0 = σ.2.2.2 3 0 := hf1.P3 (by unfold Zt; omega)
      refine wp_mono (ih (j + 1) f r1 an1 ts2 τ (by rw [(hf1 2 0 (by unfold Zt; omega)).1]; exact hu1) (by rw [e3]; exact hP) (by rw [e3]; exact hR.fr hf1 (fun r _ _ => by unfold Zt; omega)) (by omega) (by omega) hl2 (hst.fr hf1 (by unfold Zt; omega) (fun s _ => Or.inl (by unfold Zt; omega)) (fun s _ => by unfold Zt; omega) (by unfold Zt; omega)) (hG.fr hf1 (fun a z _ _ _ => by unfold Zt; omega))) (fun q hq => ⟨hq.1, hf1.tr hq.2⟩)
    unfold JB_fold_L51 JB_fold_b51 JB_fold_b157 JB_fold_b162
    rw [hu1, if_neg (by rw [i_le (by omega) (by omega)]; omega), if_pos hin, i_n (by omega), if_pos hPj]
    simp only [l1, i_add]
    rcases h with ⟨h1, h2⟩ | ⟨t, ts1, rfl, h2, h3⟩
    · rw [off_sees h1, some_bind, if_pos (show b01 false = 0 from rfl)]
      exact go σ ts r an fr.rf h2 hl
    · have hl1 : ∀ t ∈ ts1, (t_fs t).length ≤ 4 := fun q hq => hl q (List.mem_cons_of_mem _ hq)
      have hlt := hl t List.mem_cons_self
      rw [h2.sees, some_bind, List.foldl_cons, hx]
      dsimp only
      cases hse : a_sees (i s) t with
      | false =>
        rw [if_pos (show b01 false = 0 from rfl), show a_fold1 s (pt s 0) fi w (r, an) t = (r, an) from by unfold a_fold1; rw [hse, if_neg (fun q => by cases q.1)]]
        rw [← hx]
        exact go σ ts1 r an fr.rf h3 hl1
      | true =>
        rw [if_neg (show ¬ b01 true = 0 by decide), if_pos (show q_in 0 3 = true by decide), show (0 : Int32).toNatClampNeg = 0 from rfl, hst.2.2.1 s 0 hs (by decide), if_pos (by rw [blt_eq]; omega)]
        refine wp_bind (JB_fitsAlone_s (n := n) hok hlt (by omega) (hG s 0 hs (by decide)) h2.2.2.2.2.2.2.2) (fun q hq => ?_)
        obtain ⟨q1, q2⟩ := q
        obtain ⟨d1, d2⟩ := hq
        replace d1 : q1 = _ := d1
        subst d1
        dsimp only at d2 ⊢
        have d2' : fr Zt σ q2 := d2
        rw [← hx]
        cases hft : (a_fits (pt s 0) (t_fs t) [] bd0).isSome with
        | false =>
          rw [if_pos (show b01 false = 0 from rfl), show a_fold1 s (pt s 0) fi w (r, an) t = (r, an) from by unfold a_fold1; rw [hft, if_neg (fun q => by cases q.2)]]
          exact go q2 ts1 r an d2' h3 hl1
        | true =>
          rw [if_neg (show ¬ b01 true = 0 by decide)]
          have hfo : a_fold1 s (pt s 0) fi w (r, an) t = (if w = 0 then (r + 1, an) else match (t_fs t)[fi]? with
              | some x => if x.1 = i 0 then (if an = true then (if w = 1 then r + x.2 else if w = 2 then (if x.2 < r then x.2 else r) else (if x.2 < r then r else x.2)) else x.2, true) else (r, an)
              | none => (r, an)) := by
            unfold a_fold1
            rw [if_pos ⟨hse, hft⟩]
            cases (t_fs t)[fi]? <;> rfl
          rw [hfo]
          by_cases hw0 : w = 0
          · rw [if_pos hw0, if_pos hw0]
            exact go q2 ts1 (r + 1) an d2' h3 hl1
          · rw [if_neg hw0, if_neg hw0]
            have hF2 : cF q2 (σ.2.2.2 3 0 j) (t_fs t) := h2.2.2.2.2.2.2.2.fr d2 (by omega) (by omega) (by omega)
            have h0f : (0 : Int32) ≤ i fi := by rw [l0, i_le (by decide) (by omega)]; omega
            rw [Fields_kindAt_s hF2 hlt, some_bind, Fields_valueAt_s hF2 hlt, some_bind, if_pos h0f, if_pos h0f, i_n (by omega)]
            dsimp only
            cases hx2 : (t_fs t)[fi]? with
            | none =>
              dsimp only
              rw [if_neg (show ¬ im = 0 by decide)]
              exact go q2 ts1 r an d2' h3 hl1
            | some y =>
              dsimp only
              by_cases hy : y.1 = i 0
              · rw [if_pos (show y.1 = 0 from hy), if_pos hy]
                cases an with
                | false =>
                  rw [if_pos (show b01 false = 0 from rfl), if_neg (show ¬ false = true by decide)]
                  exact go q2 ts1 y.2 true d2' h3 hl1
                | true =>
                  rw [if_neg (show ¬ b01 true = 0 by decide), if_pos rfl]
                  unfold JB_combine JB_combine_b0 JB_combine_b27
                  by_cases w1 : w = 1
                  · rw [if_pos w1, if_pos w1, some_bind]
                    exact go q2 ts1 (r + y.2) true d2' h3 hl1
                  · rw [if_neg w1, if_neg w1]
                    by_cases w2 : w = 2
                    · rw [if_pos w2, if_pos w2, some_bind]
                      exact go q2 ts1 _ true d2' h3 hl1
                    · rw [if_neg w2, if_neg w2, some_bind]
                      exact go q2 ts1 _ true d2' h3 hl1
              · rw [if_neg (show ¬ y.1 = 0 from hy), if_neg hy]
                exact go q2 ts1 r an d2' h3 hl1

theorem JB_fold_s {n f : Nat} {x fi w : Int32} {a : Sq} {σ : J} (hA : cA n σ a) (hw : wfA n a) (hf : 60 ≤ f) : wp (JB_fold n f x fi w σ) (fun q => q.1 = (o_fold n x fi w a).1 ∧ cA n q.2 (o_fold n x fi w a).2 ∧ wfA n (o_fold n x fi w a).2) := by
  obtain ⟨now, lat, ts, line, dl, dr, pt, la, jo, tk, fn, os⟩ := a
  unfold JB_fold JB_fold_b0 JB_fold_b34 o_fold
  rw [JB_readySession_s hA hw, some_bind]
  dsimp only
  cases hfi : a_first n line x with
  | inr e => rw [wp_some]; exact ⟨rfl, hA, hw⟩
  | inl s =>
    have hw' := hw
    obtain ⟨w1, w2, w3, w4, w5, w6, w7, w8, w9, w10, w11, w12, w13⟩ := hw'
    obtain ⟨hs, hxs, hml⟩ := first_i w13 hfi
    have hA' := hA
    obtain ⟨g1, g2, g3, g4, g5, g6, g7, g8, g9, g10, g11, g12⟩ := hA'
    dsimp only
    rw [if_pos (by rw [blt_eq]; omega), Session_hasPatterns_s (n := n) hs g1 g8 (fun p hp => w6 s p hs hp) (by omega), some_bind, hasP_1, isE]
    dsimp only
    by_cases hp : pt s 0 ≠ []
    · rw [decide_eq_true hp, if_neg (show ¬ b01 true = 0 by decide)]
      by_cases h0 : 0 ≤ fi
      · rw [if_neg (nlt_of_le h0)]
        by_cases h4 : fi < 4
        · rw [if_neg (nle_of_lt h4)]
          by_cases v0 : 0 ≤ w
          · rw [if_neg (nlt_of_le v0)]
            by_cases v3 : w ≤ 3
            · rw [if_pos v3, if_pos (show pt s 0 ≠ [] ∧ 0 ≤ fi ∧ fi < 4 ∧ 0 ≤ w ∧ w ≤ 3 from ⟨hp, h0, h4, v0, v3⟩)]
              obtain ⟨k, hk, e1, e2⟩ := w_i h0
              rw [e1, l4, i_lt hk (by decide)] at h4
              obtain ⟨u, u1, u2, u3, u4⟩ := g4
              rw [e2, e1]
              refine wp_mono (JB_fold_L (n := n) hs hxs h4 (w6 s 0 hs (by decide)) u1 u 0 f 0 false ts σ u2 u3 u4 (by omega) (by omega) (fun t ht => (w1.2 t ht).2.2.2.2.1) g1 g8) (fun q hq => ⟨hq.1, hA.fr hq.2 Zt12, hw⟩)
            · rw [if_neg v3, if_neg (fun q => v3 q.2.2.2.2), wp_some]
              exact ⟨rfl, hA, hw⟩
          · rw [if_pos (i_neg v0), if_neg (fun q => v0 q.2.2.2.1), wp_some]
            exact ⟨rfl, hA, hw⟩
        · rw [if_pos (le_of_nlt h4), if_neg (fun q => h4 q.2.2.1), wp_some]
          exact ⟨rfl, hA, hw⟩
      · rw [if_pos (i_neg h0), if_neg (fun q => h0 q.2.1), wp_some]
        exact ⟨rfl, hA, hw⟩
    · rw [decide_eq_false hp, if_pos (show b01 false = 0 from rfl), if_neg (fun q => hp q.1), wp_some]
      exact ⟨rfl, hA, hw⟩
/-- a deal that is done at last leaves none taken in it -/
theorem settle_ok {n now lat s : Nat} {dl : Nat → Nat} : ∀ {ts : List Tp} {os : List Od}, okTs n now lat dl ts → ((a_settle s ts os).1.map t_num).Sublist (ts.map t_num) ∧ ∀ t ∈ (a_settle s ts os).1, okT n now lat dl t ∧ ¬ a_isT (i s) (i 1) t = true := by
  intro ts
  induction ts with
  | nil => intro os h; exact ⟨List.Sublist.slnil, fun t ht => by cases ht⟩
  | cons t ts ih =>
    intro os h
    have h1 : okTs n now lat dl ts := ⟨(List.nodup_cons.mp h.1).2, fun q hq => h.2 q (List.mem_cons_of_mem _ hq)⟩
    have hk := h.2 t List.mem_cons_self
    unfold a_settle
    by_cases hT : a_isT (i s) (i 1) t = true
    · rw [if_pos hT]
      exact ⟨(ih h1).1.cons _, (ih h1).2⟩
    · rw [if_neg hT]
      by_cases hP : a_isP (i s) (i 1) t = true
      · rw [if_pos hP]
        refine ⟨(ih h1).1.cons_cons _, fun q hq => ?_⟩
        rcases List.mem_cons.mp hq with rfl | hq
        · obtain ⟨k1, k2, k3, k4, k5⟩ := hk
          exact ⟨⟨k1, k2, Or.inl ⟨rfl, rfl⟩, k4, k5⟩, hT⟩
        · exact (ih h1).2 q hq
      · rw [if_neg hP]
        refine ⟨(ih h1).1.cons_cons _, fun q hq => ?_⟩
        rcases List.mem_cons.mp hq with rfl | hq
        · exact ⟨hk, hT⟩
        · exact (ih h1).2 q hq
theorem settle_os {s : Nat} : ∀ {ts : List Tp} {os : List Od}, (∀ o ∈ os, okGs o.1 ∧ o.2.1.length ≤ 5) → (∀ o ∈ (a_settle s ts os).2.1, okGs o.1 ∧ o.2.1.length ≤ 5) ∧ (a_settle s ts os).2.1.length = os.length := by
  intro ts
  induction ts with
  | nil => intro os h; exact ⟨h, rfl⟩
  | cons t ts ih =>
    intro os h
    unfold a_settle
    split
    · exact ih h
    · split
      · refine ⟨(ih (okOs_add h)).1, ?_⟩
        rw [(ih (okOs_add h)).2, a_report_len]
      · exact ih h
theorem wfA_settle {n s : Nat} {now lat : Nat} {ts : List Tp} {line : List Nat} {dl : Nat → Nat} {dr : Nat → List FV} {pt : Nat → Nat → List Fm} {la : Nat → Int32} {jo : Nat → Nat} {tk : Nat → Bool} {fn : Nat → Fq} {os : List Od} (hw : wfA n (now, lat, ts, line, dl, dr, pt, la, jo, tk, fn, os)) (hs : s < n) (h1 : dl s = 1) : wfA n (now, lat, (a_settle s ts os).1, line, va_up dl s 0, dr, pt, la, jo, tk, fn, (a_settle s ts os).2.1) := by
  obtain ⟨w1, w2, w3, w4, w5, w6, w7, w8, w9, w10, w11, w12, w13⟩ := hw
  obtain ⟨k1, k2⟩ := settle_ok (s := s) (os := os) w1
  refine ⟨okTs_dl ⟨w1.1.sublist k1, fun t ht => (k2 t ht).1⟩ w13 w4 (by decide) (fun t ht e => ?_), w2, w3, fun q hq => ?_, w5, w6, w7, w8, (settle_os w9).1, by rw [(settle_os w9).2]; exact w10, w11, w12, w13⟩
  · obtain ⟨⟨-, -, -, q4, -⟩, q2⟩ := k2 t ht
    rcases q4 with q | ⟨s1, d1, x1, x2, x3, x4, x5⟩
    · exact Or.inl q.2
    · rw [x4, i_eq (by omega) (by omega)] at e
      subst e
      exact absurd (show a_isT (i s1) (i 1) t = true from by
        unfold a_isT
        rw [Bool.and_eq_true, decide_eq_true_iff, decide_eq_true_iff]
        exact ⟨x4, by rw [x5, show d1 = 1 by omega]⟩) q2
  · unfold va_up
    split
    · omega
    · exact w4 q hq
theorem hand_ok {n now lat s : Nat} {dl : Nat → Nat} {t : Tp} (h : okT n now lat dl t) (hn : n ≤ 4) (hd : 2 ≤ dl s ∧ dl s ≤ 4) (hs : s < n) : t_num (a_hand1 s (dl s) t) = t_num t ∧ okT n now lat dl (a_hand1 s (dl s) t) ∧ (t_tS (a_hand1 s (dl s) t) = i s → t_tD (a_hand1 s (dl s) t) = im ∨ ∃ e, 1 ≤ e ∧ e ≤ dl s - 1 ∧ t_tD (a_hand1 s (dl s) t) = i e) := by
  have key : ∀ t1 : Tp, okT n now lat dl t1 → (t_num (if a_isT (i s) (i (dl s)) t1 = true then t_setT t1 (i s) (i (dl s - 1)) else t1) = t_num t1 ∧ okT n now lat dl (if a_isT (i s) (i (dl s)) t1 = true then t_setT t1 (i s) (i (dl s - 1)) else t1) ∧ (t_tS (if a_isT (i s) (i (dl s)) t1 = true then t_setT t1 (i s) (i (dl s - 1)) else t1) = i s → t_tD (if a_isT (i s) (i (dl s)) t1 = true then t_setT t1 (i s) (i (dl s - 1)) else t1) = im ∨ ∃ e, 1 ≤ e ∧ e ≤ dl s - 1 ∧ t_tD (if a_isT (i s) (i (dl s)) t1 = true then t_setT t1 (i s) (i (dl s - 1)) else t1) = i e)) := by
    intro t1 h1
    obtain ⟨k1, k2, k3, k4, k5⟩ := h1
    by_cases hT : a_isT (i s) (i (dl s)) t1 = true
    · rw [if_pos hT]
      exact ⟨rfl, ⟨k1, k2, k3, Or.inr ⟨s, dl s - 1, hs, by omega, by omega, rfl, rfl⟩, k5⟩, fun _ => Or.inr ⟨dl s - 1, by omega, Nat.le_refl _, rfl⟩⟩
    · rw [if_neg hT]
      refine ⟨rfl, ⟨k1, k2, k3, k4, k5⟩, fun e => ?_⟩
      rcases k4 with q | ⟨s1, d1, x1, x2, x3, x4, x5⟩
      · exact Or.inl q.2
      · rw [x4, i_eq (by omega) (by omega)] at e
        subst e
        refine Or.inr ⟨d1, x2, ?_, x5⟩
        by_cases e2 : d1 = dl s1
        · exact absurd (show a_isT (i s1) (i (dl s1)) t1 = true from by
            unfold a_isT
            rw [Bool.and_eq_true, decide_eq_true_iff, decide_eq_true_iff]
            exact ⟨x4, by rw [x5, e2]⟩) hT
        · omega
  unfold a_hand1
  by_cases hP : a_isP (i s) (i (dl s)) t = true
  · rw [if_pos hP]
    obtain ⟨k1, k2, k3, k4, k5⟩ := h
    exact key (t_setP t (i s) (i (dl s - 1))) ⟨k1, k2, Or.inr ⟨s, dl s - 1, hs, by omega, by omega, rfl, rfl⟩, k4, k5⟩
  · rw [if_neg hP]
    exact key t h
theorem wfA_hand {n s : Nat} {now lat : Nat} {ts : List Tp} {line : List Nat} {dl : Nat → Nat} {dr : Nat → List FV} {pt : Nat → Nat → List Fm} {la : Nat → Int32} {jo : Nat → Nat} {tk : Nat → Bool} {fn : Nat → Fq} {os : List Od} (hw : wfA n (now, lat, ts, line, dl, dr, pt, la, jo, tk, fn, os)) (hs : s < n) (h2 : 2 ≤ dl s) : wfA n (now, lat, ts.map (a_hand1 s (dl s)), line, va_up dl s (dl s - 1), dr, pt, la, jo, tk, fn, os) := by
  obtain ⟨w1, w2, w3, w4, w5, w6, w7, w8, w9, w10, w11, w12, w13⟩ := hw
  have h4 := w4 s hs
  have hk : ∀ t ∈ ts, _ := fun t ht => hand_ok (w1.2 t ht) w13 ⟨h2, h4⟩ hs
  refine ⟨okTs_dl ⟨?_, fun t ht => ?_⟩ w13 w4 (by omega) (fun t ht => ?_), w2, w3, fun q hq => ?_, w5, w6, w7, w8, w9, w10, w11, w12, w13⟩
  · rw [List.map_map, List.map_congr_left (f := t_num ∘ a_hand1 s (dl s)) (g := t_num) (fun t ht => (hk t ht).1)]
    exact w1.1
  · obtain ⟨u, hu, rfl⟩ := List.mem_map.mp ht
    exact (hk u hu).2.1
  · obtain ⟨u, hu, rfl⟩ := List.mem_map.mp ht
    exact (hk u hu).2.2
  · unfold va_up
    split
    · omega
    · exact w4 q hq
theorem JB_commit_s {n f : Nat} {x : Int32} {a : Sq} {σ : J} (hA : cA n σ a) (hw : wfA n a) (hf : 130 ≤ f) : wp (JB_commit n f x σ) (fun q => q.1 = (o_commit n x a).1 ∧ cA n q.2 (o_commit n x a).2 ∧ wfA n (o_commit n x a).2) := by
  obtain ⟨now, lat, ts, line, dl, dr, pt, la, jo, tk, fn, os⟩ := a
  unfold JB_commit JB_commit_b0 JB_commit_b67 o_commit
  rw [JB_readySession_s hA hw, some_bind]
  dsimp only
  cases hfi : a_first n line x with
  | inr e => rw [wp_some]; exact ⟨rfl, hA, hw⟩
  | inl s =>
    have hw' := hw
    obtain ⟨w1, w2, w3, w4, w5, w6, w7, w8, w9, w10, w11, w12, w13⟩ := hw'
    obtain ⟨hs, hxs, hml⟩ := first_i w13 hfi
    have hA' := hA
    obtain ⟨g1, g2, g3, g4, g5, g6, g7, g8, g9, g10, g11, g12⟩ := hA'
    have h4 := w4 s hs
    dsimp only
    rw [if_pos (by rw [blt_eq]; omega), g6 s hs]
    by_cases hd : dl s = 0
    · rw [if_pos (show i (dl s) = 0 from by rw [hd]; rfl), if_pos hd, wp_some]
      exact ⟨rfl, hA, hw⟩
    · rw [if_neg (by rw [l0, i_eq (by omega) (by decide)]; exact hd), if_neg hd, hxs, Board_countInDeal_s g4 (by omega), some_bind, bs_eq]
      dsimp only
      rw [g6 s hs, l1, i_sub (by omega)]
      have hf1 : fr (fun a b => Z4 a b ∨ (a = 16 ∧ b = s)) σ (q_sI σ 16 4 s (i (dl s - 1))) := fr.rf.sI (Or.inr ⟨rfl, rfl⟩)
      have hB1 : cB (q_sI σ 16 4 s (i (dl s - 1))) ts := g4.fr (Z := fun a b => a = 16 ∧ b = s) (fr.rf.sI ⟨rfl, rfl⟩) (by omega) (by omega) (fun z _ => by omega)
      have hA1 := cA_dl hA hB1 hf1 (by rw [sI1, if_pos ⟨rfl, rfl, rfl⟩]) (fun g hg => by rw [sI1, if_neg (fun q => hg q.2.1)])
      have e4 : (q_sI σ 16 4 s (i (dl s - 1))).1 16 4 s = i (dl s - 1) := by rw [sI1, if_pos ⟨rfl, rfl, rfl⟩]
      rw [e4]
      by_cases h1 : dl s = 1
      · rw [if_pos (by rw [h1]; decide), if_pos h1]
        rw [show dl s - 1 = 0 by omega] at hA1 ⊢
        refine wp_bind (JB_settle_s hA1 (w1.s w11) w9 w10 (by omega) (wfA_settle hw hs h1)) (fun τ hτ => ?_)
        rw [wp_some]
        refine ⟨rfl, ?_, ?_⟩
        · have := hτ.1
          cases hc : (a_settle s ts os).2.2 with
          | true => rw [hc, if_pos rfl] at this; rw [if_pos rfl]; exact this
          | false => rw [hc, if_neg (by decide)] at this; rw [if_neg (show ¬ false = true by decide)]; exact this
        · have := hτ.2
          cases hc : (a_settle s ts os).2.2 with
          | true => rw [hc, if_pos rfl] at this; rw [if_pos rfl]; exact this
          | false => rw [hc, if_neg (by decide)] at this; rw [if_neg (show ¬ false = true by decide)]; exact this
      · rw [if_neg (by rw [l0, i_le (by omega) (by decide)]; omega), if_neg h1, i_add, show dl s - 1 + 1 = dl s by omega]
        refine wp_bind (Board_handOver_s (n := n) (s := s) (d := dl s) hB1 ⟨by omega, h4⟩ (by omega)) (fun τ hτ => ?_)
        rw [wp_some]
        exact ⟨rfl, cA_ts hA1 hτ.1 (fun a b q => Or.inl q) hτ.2 (hA1.2.2.2.2.2.2.2.2.2.2.2.fr w10 hτ.1 (by unfold Z4; omega) (fun a z _ _ _ => by unfold Z4; omega) (fun z _ => by unfold Z4; omega)), wfA_hand hw hs (by omega)⟩
theorem a_down1 {s d : Nat} {ts : List Tp} (hd : 1 ≤ d) : a_down s d d ts false = (a_undo s d ts, a_freed s d ts) := by
  obtain ⟨c, rfl⟩ : ∃ c, d = c + 1 := ⟨d - 1, by omega⟩
  unfold a_down
  rw [if_neg (by omega), Bool.false_or]
  cases c with
  | zero => rfl
  | succ c => unfold a_down; rw [if_pos (by omega)]
theorem JB_abandon_s {n f : Nat} {x : Int32} {a : Sq} {σ : J} (hA : cA n σ a) (hw : wfA n a) (hf : 100 ≤ f) : wp (JB_abandon n f x σ) (fun q => q.1 = (o_abandon n x a).1 ∧ cA n q.2 (o_abandon n x a).2 ∧ wfA n (o_abandon n x a).2) := by
  obtain ⟨now, lat, ts, line, dl, dr, pt, la, jo, tk, fn, os⟩ := a
  unfold JB_abandon JB_abandon_b0 JB_abandon_b44 o_abandon
  rw [JB_readySession_s hA hw, some_bind]
  dsimp only
  cases hfi : a_first n line x with
  | inr e => rw [wp_some]; exact ⟨rfl, hA, hw⟩
  | inl s =>
    have hw' := hw
    obtain ⟨w1, w2, w3, w4, w5, w6, w7, w8, w9, w10, w11, w12, w13⟩ := hw'
    obtain ⟨hs, hxs, hml⟩ := first_i w13 hfi
    have hA' := hA
    obtain ⟨g1, g2, g3, g4, g5, g6, g7, g8, g9, g10, g11, g12⟩ := hA'
    have h4 := w4 s hs
    dsimp only
    rw [if_pos (by rw [blt_eq]; omega), g6 s hs]
    by_cases hd : dl s = 0
    · rw [if_pos (show i (dl s) = 0 from by rw [hd]; rfl), if_pos hd, wp_some]
      exact ⟨rfl, hA, hw⟩
    · rw [if_neg (by rw [l0, i_eq (by omega) (by decide)]; exact hd), if_neg hd, hxs, Board_countInDeal_s g4 (by omega), some_bind]
      dsimp only
      rw [g6 s hs]
      have hdn := JB_abandonDownTo_s (n := n) (f := f) (d := dl s) (c := dl s) hs ⟨by omega, h4⟩ h4 (by omega) g4 (g1.2.1 s hs) (g6 s hs)
      rw [a_down1 (by omega)] at hdn
      refine wp_bind hdn (fun q hq => ?_)
      obtain ⟨q1, q2⟩ := q
      obtain ⟨d1, d2, d3, d4, d5, -⟩ := hq
      replace d1 : q1 = _ := d1
      subst d1
      dsimp only at d2 d3 d4 d5 ⊢
      have hA1 := cA_dl hA d2 d3 d4 d5
      have hw1 : wfA n (now, lat, a_undo s (dl s) ts, line, va_up dl s (dl s - 1), dr, pt, la, jo, tk, fn, os) := by
        refine ⟨okTs_dl (okTs_undo w1) w13 w4 (by omega) ?_, w2, w3, fun q hq => ?_, w5, w6, w7, w8, w9, w10, w11, w12, w13⟩
        · have := w1.tk w13 (show s < 4 by omega)
          obtain ⟨c, hc⟩ : ∃ c, dl s = c + 1 := ⟨dl s - 1, by omega⟩
          rw [hc] at this ⊢
          exact tkLe_undo this
        · unfold va_up
          split
          · omega
          · exact w4 q hq
      cases hfr : a_freed s (dl s) ts with
      | false =>
        rw [if_pos (show b01 false = 0 from rfl), if_neg (show ¬ false = true by decide), wp_some]
        exact ⟨rfl, hA1, hw1⟩
      | true =>
        rw [if_neg (show ¬ b01 true = 0 by decide), if_pos rfl]
        refine wp_bind (JB_serveLine_s hA1 hw1 (by omega)) (fun τ hτ => ?_)
        rw [wp_some]
        exact ⟨rfl, hτ.1, hτ.2.1⟩
theorem JB_now_s {n : Nat} {a : Sq} {σ : J} (hA : cA n σ a) : JB_now n σ = some (i a.1, σ) := by
  obtain ⟨now, lat, ts, line, dl, dr, pt, la, jo, tk, fn, os⟩ := a
  unfold JB_now JB_now_b0
  rw [hA.2.1]
