/-! The reference abandons a deal. Ours. -/
theorem upd_at {f : Nat → Int32} {k : Nat} {x : Int32} : upd f k x k = x := if_pos rfl
theorem upd_ne {f : Nat → Int32} {k j : Nat} {x : Int32} (h : j ≠ k) : upd f k x j = f j := if_neg h
/-- rows beside one that changes -/
theorem mB_set {σ τ : J} {ts : List Tp} {j : Nat} {t : Tp} (h : mB σ ts) (hj : j < ts.length) (h1 : τ.1 24 1 0 = σ.1 24 1 0) (hT : mT τ j t) (ho : ∀ q u, q ≠ j → ts[q]? = some u → mT σ q u → mT τ q u) : mB τ (ts.set j t) := by
  refine ⟨by rw [List.length_set, h1]; exact h.1, by rw [List.length_set]; exact h.2.1, fun q u hu => ?_⟩
  by_cases e : q = j
  · subst e
    rw [List.getElem?_set_self hj] at hu
    cases hu
    exact hT
  · rw [List.getElem?_set_ne (fun q => e q.symm)] at hu
    exact ho q u e hu (h.2.2 q u hu)
theorem set_mid {α : Type} {pre post : List α} {t u : α} : (pre ++ t :: post).set pre.length u = pre ++ u :: post := by
  rw [List.set_append_right _ _ (Nat.le_refl _), Nat.sub_self]
  rfl
theorem erase_mid {α : Type} {pre post : List α} {t : α} : (pre ++ t :: post).eraseIdx pre.length = pre ++ post := by
  rw [List.eraseIdx_append_of_length_le (Nat.le_refl _), Nat.sub_self]
  rfl
theorem get_mid {α : Type} {pre post : List α} {t : α} : (pre ++ t :: post)[pre.length]? = some t := by
  rw [List.getElem?_append_right (Nat.le_refl _), Nat.sub_self]
  rfl
/-- taken by none any more, or as before -/
theorem mT_30 {σ : J} {j : Nat} {t : Tp} (h : mT σ j t) : mT (q_sA σ 30 0 (upd (σ.2.1 30 0) j im)) j (t_setT t im im) := by
  obtain ⟨g1, g2, g3, g4, g5, g6, g7⟩ := h
  exact ⟨g1, g2, g3, g4, upd_at, fun e => absurd rfl e, g7⟩
theorem mT_30o {σ : J} {j q : Nat} {t : Tp} {v : Int32} (h : mT σ q t) (hq : q ≠ j) : mT (q_sA σ 30 0 (upd (σ.2.1 30 0) j v)) q t := by
  obtain ⟨g1, g2, g3, g4, g5, g6, g7⟩ := h
  refine ⟨g1, g2, g3, g4, ?_, g6, g7⟩
  show upd (σ.2.1 30 0) j v q = _
  rw [upd_ne hq]; exact g5
theorem mB_30s {σ : J} {ts : List Tp} {j : Nat} (h : mB σ ts) : mB (q_sA σ 30 0 (upd (σ.2.1 30 0) j (σ.2.1 30 0 j))) ts := by
  have e : upd (σ.2.1 30 0) j (σ.2.1 30 0 j) = σ.2.1 30 0 := by
    funext y
    unfold upd
    split
    · rename_i q; rw [q]
    · rfl
  rw [e]
  have e2 : q_sA σ 30 0 (σ.2.1 30 0) = σ := by
    obtain ⟨a, b, c⟩ := σ
    show (a, _, c) = (a, b, c)
    congr 2
    funext x y
    by_cases q : x = 30 ∧ y = 0
    · rw [if_pos q, q.1, q.2]
    · rw [if_neg q]
  rw [e2]
  exact h
theorem M_drop_L {n s d : Nat} (hs : s < 4) (hd : 1 ≤ d ∧ d ≤ 4) :
    ∀ (rest done : List Tp) (f c : Nat) (fr : Bool) (σ : J), mB σ (done ++ rest) → (∀ t ∈ done ++ rest, (t_fs t).length ≤ 4) → σ.2.1 34 0 s = i d → rest.length + 70 ≤ f → wp (M_drop_L7 n f (i s) (i c) (b01 fr) (i done.length) σ) (fun q => q.1 = i (c + a_inDeal s d rest + if (fr || a_freed s d rest) = true then 100 else 0) ∧ mf (fun k => Kr k ∨ k = 34) F1 σ q.2 ∧ mB q.2 (done ++ a_undo s d rest) ∧ ∀ y, q.2.2.1 34 0 y = if y = s then i (d - 1) else σ.2.1 34 0 y) := by
  intro rest
  induction rest with
  | nil =>
    intro done f c fr σ hB hl h34 hf
    obtain ⟨f, rfl⟩ : ∃ g, f = g + 1 := ⟨f - 1, by omega⟩
    have h1 := hB.1
    have h20 := hB.2.1
    rw [List.append_nil] at h1 h20
    show wp (M_drop_b7 n (M_drop_L7 n f) f (i s) (i c) (b01 fr) (i done.length) σ) _
    unfold M_drop_b7 M_drop_b126
    have his : q_in (i s) 4 = true := by rw [i_in (by omega)]; exact hs
    rw [h1, if_pos (by rw [i_le (by omega) (by omega)]; omega), if_pos his, if_pos his, bs_eq, i_n (by omega), h34, l1, i_sub (by omega)]
    have hfr : mf (fun k => Kr k ∨ k = 34) F1 σ (q_sA σ 34 0 (upd (σ.2.1 34 0) s (i (d - 1)))) := mf.rf.sA (Or.inr rfl)
    have hBx : mB (q_sA σ 34 0 (upd (σ.2.1 34 0) s (i (d - 1)))) (done ++ a_undo s d []) := hB.fr (K := fun k => k = 34) (F := fun _ => False) (mf.rf.sA rfl) (fun k _ _ => by omega) (fun q => q)
    cases fr with
    | false =>
      rw [if_pos (show b01 false = 0 from rfl), wp_some]
      exact ⟨rfl, hfr, hBx, fun y => rfl⟩
    | true =>
      rw [if_neg (show ¬ b01 true = 0 by decide), wp_some, l100, i_add]
      exact ⟨rfl, hfr, hBx, fun y => rfl⟩
  | cons t rest ih =>
    intro done f c fr σ hB hl h34 hf
    obtain ⟨f, rfl⟩ : ∃ g, f = g + 1 := ⟨f - 1, by omega⟩
    have hfl : rest.length + 70 ≤ f := by simp at hf; omega
    have h1 := hB.1
    have h20 := hB.2.1
    have hlen : (done ++ t :: rest).length = done.length + rest.length + 1 := by simp; omega
    have hT := hB.2.2 done.length t get_mid
    have hin : q_in (i done.length) 20 = true := by rw [i_in (by omega)]; omega
    show wp (M_drop_b7 n (M_drop_L7 n f) f (i s) (i c) (b01 fr) (i done.length) σ) _
    unfold M_drop_b7 M_drop_b59 M_drop_b69 M_drop_b74 M_drop_b97 M_drop_b101
    rw [h1, if_neg (by rw [i_le (by omega) (by omega)]; omega), M_isTaken_s hT (by omega) hs h34, some_bind]
    dsimp only
    rw [M_isPut_s hT (by omega) hs h34, some_bind]
    dsimp only
    have ec : a_inDeal s d (t :: rest) = a_inDeal s d rest + if (a_isP (i s) (i d) t || a_isT (i s) (i d) t) = true then 1 else 0 := List.countP_cons
    have ef : a_freed s d (t :: rest) = ((!(a_isP (i s) (i d) t) && a_isT (i s) (i d) t) || a_freed s d rest) := List.any_cons
    by_cases hp : a_isP (i s) (i d) t = true
    · rw [hp, if_neg (show ¬ b01 true = 0 by decide)]
      rw [hp] at ec ef
      refine wp_bind (M_remove_s (n := n) (f := f) (r := done.length) hB hl (by omega) (by omega)) (fun τ hτ => ?_)
      obtain ⟨t1, t2⟩ := hτ
      rw [erase_mid] at t2
      have hl2 : ∀ u ∈ done ++ rest, (t_fs u).length ≤ 4 := fun u hu => hl u (by
        rcases List.mem_append.mp hu with q | q
        · exact List.mem_append_left _ q
        · exact List.mem_append_right _ (List.mem_cons_of_mem _ q))
      have e34 : τ.2.1 34 0 = σ.2.1 34 0 := (t1.1 34 (by unfold Kr; omega)).1
      rw [l1, i_add]
      refine wp_mono (ih done f (c + 1) fr τ t2 hl2 (by rw [e34]; exact h34) hfl) (fun q hq => ⟨?_, (t1.up (fun k q => Or.inl q) (fun f q => q)).tr hq.2.1, ?_, fun y => ?_⟩)
      · rw [hq.1, ec, ef]
        congr 1
        simp
        omega
      · rw [show a_undo s d (t :: rest) = a_undo s d rest from by unfold a_undo a_undo1; rw [List.filterMap_cons, if_pos hp]]
        exact hq.2.2.1
      · rw [hq.2.2.2 y, e34]
    · have hp0 : a_isP (i s) (i d) t = false := by simpa using hp
      rw [hp0, if_pos (show b01 false = 0 from rfl)]
      rw [hp0] at ec ef
      have hud : a_undo s d (t :: rest) = (if a_isT (i s) (i d) t = true then t_setT t im im else t) :: a_undo s d rest := by
        unfold a_undo a_undo1
        rw [List.filterMap_cons, if_neg hp]
        by_cases q : a_isT (i s) (i d) t = true
        · rw [if_pos q, if_pos q]
        · rw [if_neg q, if_neg q]
      -- the next row
      have go : ∀ (c1 : Nat) (fr1 : Bool) (σ1 : J) (t1 : Tp), mB σ1 (done ++ t1 :: rest) → (t_fs t1).length ≤ 4 → mf (fun k => Kr k ∨ k = 34) F1 σ σ1 → σ1.2.1 34 0 = σ.2.1 34 0 → t1 = (if a_isT (i s) (i d) t = true then t_setT t im im else t) → c1 + a_inDeal s d rest + (if (fr1 || a_freed s d rest) = true then 100 else 0) = c + a_inDeal s d (t :: rest) + (if (fr || a_freed s d (t :: rest)) = true then 100 else 0) → wp (M_drop_L7 n f (i s) (i c1) (b01 fr1) (i (done.length + 1)) σ1) (fun q => q.1 = i (c + a_inDeal s d (t :: rest) + if (fr || a_freed s d (t :: rest)) = true then 100 else 0) ∧ mf (fun k => Kr k ∨ k = 34) F1 σ q.2 ∧ mB q.2 (done ++ a_undo s d (t :: rest)) ∧ ∀ y, q.2.2.1 34 0 y = if y = s then i (d - 1) else σ.2.1 34 0 y) := by
        intro c1 fr1 σ1 t1 hB1 hl1 hf1 e34 et ecc
        have e : done ++ t1 :: rest = (done ++ [t1]) ++ rest := by simp
        have el : (done ++ [t1]).length = done.length + 1 := by simp
        rw [e] at hB1
        have := ih (done ++ [t1]) f c1 fr1 σ1 hB1 (fun u hu => by
          rcases List.mem_append.mp hu with q | q
          · rcases List.mem_append.mp q with q | q
            · exact hl u (List.mem_append_left _ q)
            · rw [List.mem_singleton.mp q]; exact hl1
          · exact hl u (List.mem_append_right _ (List.mem_cons_of_mem _ q))) (by rw [e34]; exact h34) hfl
        rw [el] at this
        refine wp_mono this (fun q hq => ⟨by rw [hq.1, ecc], hf1.tr hq.2.1, ?_, fun y => by rw [hq.2.2.2 y, e34]⟩)
        rw [hud, ← et]
        have h9 := hq.2.2.1
        rw [List.append_assoc] at h9
        exact h9
      by_cases ht : a_isT (i s) (i d) t = true
      · rw [ht] at ec ef
        simp only [ht, if_neg (show ¬ b01 true = 0 by decide)]
        rw [show (if b01 fr = 0 then (if q_in (i done.length) 20 = true then q_bs (q_sA σ 30 0 (upd (σ.2.1 30 0) (i done.length).toNatClampNeg (-1))) fun σ5 => M_drop_L7 n f (i s) (i c + 1) 1 (i done.length + 1) σ5 else none) else (if q_in (i done.length) 20 = true then q_bs (q_sA σ 30 0 (upd (σ.2.1 30 0) (i done.length).toNatClampNeg (-1))) fun σ5 => M_drop_L7 n f (i s) (i c + 1) 1 (i done.length + 1) σ5 else none)) = M_drop_L7 n f (i s) (i (c + 1)) (b01 true) (i (done.length + 1)) (q_sA σ 30 0 (upd (σ.2.1 30 0) done.length im)) from by
          rw [if_pos hin, bs_eq, i_n (by omega), l1, i_add, i_add]
          split <;> rfl]
        refine go (c + 1) true _ (t_setT t im im) ?_ (hl t (by simp)) (mf.rf.sA (Or.inl (by unfold Kr; omega))) rfl (by rw [if_pos ht]) ?_
        · have := mB_set (j := done.length) (τ := q_sA σ 30 0 (upd (σ.2.1 30 0) done.length im)) hB (by omega) rfl (mT_30 hT) (fun q u hq _ hu => mT_30o hu hq)
          rw [set_mid] at this
          exact this
        · rw [ec, ef]
          simp
          omega
      · have ht0 : a_isT (i s) (i d) t = false := by simpa using ht
        rw [ht0] at ec ef
        simp only [ht0, if_pos (show b01 false = 0 from rfl), hin, if_true, bs_eq]
        rw [i_n (by omega), l1, i_add]
        have hgo : ∀ fr1 : Bool, fr1 = fr → wp (M_drop_L7 n f (i s) (i c) (b01 fr1) (i (done.length + 1)) (q_sA σ 30 0 (upd (σ.2.1 30 0) done.length (σ.2.1 30 0 done.length)))) _ := fun fr1 e => go c fr1 _ t (mB_30s hB) (hl t (by simp)) (mf.rf.sA (Or.inl (by unfold Kr; omega))) rfl (by rw [if_neg ht]) (by rw [ec, ef, e]; simp)
        cases fr with
        | false => rw [if_pos (show b01 false = 0 from rfl)]; exact hgo false rfl
        | true => rw [if_neg (show ¬ b01 true = 0 by decide)]; exact hgo true rfl
