/-! The class serves its line. Ours. -/
theorem okTs_take {n now lat s : Nat} {dl : Nat → Nat} {ts : List Tp} {m : Int32} (h : okTs n now lat dl ts) (hs : s < n) : okTs n now lat dl (a_take s (dl s) ts m) := by
  refine ⟨a_take_num h.1, fun t ht => ?_⟩
  unfold a_take at ht
  split at ht
  · exact h.2 t (List.mem_filter.mp ht).1
  · rename_i hd
    obtain ⟨u, hu, rfl⟩ := List.mem_map.mp ht
    have hk := h.2 u hu
    by_cases e : t_num u = m
    · rw [if_pos e]
      obtain ⟨h1, h2, h3, h4, h5⟩ := hk
      exact ⟨h1, h2, h3, Or.inr ⟨s, dl s, hs, by omega, Nat.le_refl _, rfl, rfl⟩, h5⟩
    · rw [if_neg e]; exact hk
theorem okTs_grant {n now lat s : Nat} {dl : Nat → Nat} {ts : List Tp} {r : Fq} {tk : Bool} (h : okTs n now lat dl ts) (hs : s < n) : okTs n now lat dl (a_grant s (dl s) tk ts r) := by
  unfold a_grant
  split
  · generalize r.1 = l
    induction l generalizing ts with
    | nil => exact h
    | cons m l ih => exact ih (okTs_take h hs)
  · exact h
theorem a_dfs_len {s : Int32} {ts : List Tp} {pt : Nat → List Fm} : ∀ {k p : Nat} {nums : List Int32} {bd : Bd} {r : Fq}, a_dfs s ts pt k p nums bd = some r → r.1.length = nums.length + k := by
  intro k
  induction k with
  | zero => intro p nums bd r h; cases h; rfl
  | succ k ih =>
    intro p nums bd r h
    unfold a_dfs at h
    obtain ⟨t, -, h2⟩ := List.exists_of_findSome?_eq_some h
    split at h2
    · obtain ⟨b, h3, h4⟩ := Option.bind_eq_some_iff.mp h2
      rw [ih h4, List.length_append]
      show nums.length + 1 + k = _
      omega
    · cases h2
theorem a_search_len {s joined : Nat} {ts : List Tp} {pt : Nat → List Fm} {r : Fq} (h : a_search s ts pt joined = some r) : r.1.length = joined := by
  have := a_dfs_len h
  rw [this]
  exact Nat.zero_add _
/-- a session is served -/
theorem wfA_grant {n now lat s : Nat} {ts : List Tp} {line : List Nat} {dl : Nat → Nat} {dr : Nat → List FV} {pt : Nat → Nat → List Fm} {la : Nat → Int32} {jo : Nat → Nat} {tk tk1 : Nat → Bool} {fn fn1 : Nat → Fq} {os : List Od} {b : Bool} {r : Fq} (hw : wfA n (now, lat, ts, line, dl, dr, pt, la, jo, tk, fn, os)) (hs : s < n) : wfA n (now, lat, a_grant s (dl s) b ts r, line, dl, dr, pt, la, jo, tk1, fn1, os) :=
  ⟨okTs_grant hw.1 hs, hw.2⟩
theorem wfA_leave {n now lat s : Nat} {ts : List Tp} {line : List Nat} {dl : Nat → Nat} {dr : Nat → List FV} {pt : Nat → Nat → List Fm} {la : Nat → Int32} {jo : Nat → Nat} {tk : Nat → Bool} {fn : Nat → Fq} {os : List Od} {v : Int32} (hw : wfA n (now, lat, ts, line, dl, dr, pt, la, jo, tk, fn, os)) (hv : v = i 0 ∨ v = i 2 ∨ v = i 3) : wfA n (now, lat, ts, line.erase s, dl, dr, pt, va_up la s v, jo, tk, fn, os) := by
  obtain ⟨h1, h2, h3, h4, h5, h6, h7, h8, h9⟩ := hw
  refine ⟨h1, h2.sublist List.erase_sublist, fun q hq => h3 q (List.mem_of_mem_erase hq), h4, h5, h6, fun q hq => ?_, fun q hq => h8 q (List.mem_of_mem_erase hq), h9⟩
  unfold va_up
  split
  · exact hv
  · exact h7 q hq
theorem cA_leave {n s : Nat} {now lat : Nat} {ts : List Tp} {line : List Nat} {dl : Nat → Nat} {dr : Nat → List FV} {pt : Nat → Nat → List Fm} {la : Nat → Int32} {jo : Nat → Nat} {tk : Nat → Bool} {fn : Nat → Fq} {os : List Od} {v : Int32} {σ τ : J} (h : cA n σ (now, lat, ts, line, dl, dr, pt, la, jo, tk, fn, os)) (hnd : line.Nodup) (hs : s < n) (h1 : cL τ (line.erase s)) (hf : fr (fun a b => (a = 16 ∧ b = s) ∨ (21 ≤ a ∧ a ≤ 22 ∧ b = 0)) σ τ) (h5 : τ.1 16 5 s = v) (hk : ∀ f, f ≠ 5 → τ.1 16 f s = σ.1 16 f s) : cA n τ (now, lat, ts, line.erase s, dl, dr, pt, va_up la s v, jo, tk, fn, os) := by
  obtain ⟨g1, g2, g3, g4, g5, g6, g7, g8, g9, g10, g11, g12⟩ := h
  have e16 : ∀ f z, f ≠ 5 → τ.1 16 f z = σ.1 16 f z := fun f z hfz => by
    by_cases e : z = s
    · rw [e]; exact hk f hfz
    · exact (hf 16 z (by omega)).1 f
  refine ⟨g1.fr hf (by omega) (fun q _ => Or.inr (e16 0 q (by decide))) (fun q _ => by omega) (by omega), ?_, ?_, g4.fr hf (by omega) (by omega) (fun z _ => by omega), h1, ?_, ?_, g8.fr hf (fun a z _ _ _ => by omega), ?_, ?_, ?_, ?_, ?_, ?_⟩
  · rw [(hf 0 0 (by omega)).1]; exact g2
  · rw [(hf 2 0 (by omega)).1]; exact g3
  · intro q hq; rw [e16 4 q (by decide)]; exact g6 q hq
  · exact fun q hq => (g7 q hq).fr hf (by omega) (by omega) (by omega)
  · intro q hq
    unfold va_up
    by_cases e : q = s
    · subst e
      rw [h5, if_neg (hnd.not_mem_erase), if_pos rfl]
    · rw [(hf 16 q (by omega)).1, g9 q hq, if_neg e]
      simp only [List.mem_erase_of_ne e]
  · intro q hq
    rw [e16 6 q (by decide), e16 7 q (by decide)]
    exact g10 q (List.mem_of_mem_erase hq)
  · exact fun q hq => (g11 q hq).fr hf (by omega) (by omega) (by omega) (by omega)
  · rw [(hf 0 0 (by omega)).1]; exact g12.1
  · exact fun j o ho => (g12.2.1 j o ho).fr hf (fun a _ _ => by omega) (by omega) (by omega)
  · intro j hj1 hj2; rw [(hf 18 j (by omega)).1, (hf 18 j (by omega)).1]; exact g12.2.2 j hj1 hj2
theorem cA_grant {n s : Nat} {now lat : Nat} {ts ts1 : List Tp} {line : List Nat} {dl : Nat → Nat} {dr : Nat → List FV} {pt : Nat → Nat → List Fm} {la : Nat → Int32} {jo : Nat → Nat} {tk : Nat → Bool} {fn : Nat → Fq} {os : List Od} {r : Fq} {σ τ : J} (h : cA n σ (now, lat, ts, line, dl, dr, pt, la, jo, tk, fn, os)) (hf : fr (Zg s) σ τ) (hN : cN τ (s + 1) r) (hB : cB τ ts1) : cA n τ (now, lat, ts1, line, dl, dr, pt, la, jo, tk, va_up fn s r, os) := by
  obtain ⟨g1, g2, g3, g4, g5, g6, g7, g8, g9, g10, g11, g12⟩ := h
  have hz : ∀ a b, (a ≠ 4 ∨ 20 ≤ b) → (a < 12 ∨ 15 < a ∨ b ≠ s + 1) → ¬ Zg s a b := fun a b h1 h2 => by unfold Zg; omega
  refine ⟨g1.fr hf (hz _ _ (by omega) (by omega)) (fun q _ => Or.inl (hz _ _ (by omega) (by omega))) (fun q _ => hz _ _ (by omega) (by omega)) (hz _ _ (by omega) (by omega)), ?_, ?_, hB, g5.fr hf (hz _ _ (by omega) (by omega)) (hz _ _ (by omega) (by omega)), ?_, ?_, g8.fr hf (fun a z _ _ _ => hz _ _ (by omega) (by omega)), ?_, ?_, ?_, ?_, ?_, ?_⟩
  · rw [(hf 0 0 (hz _ _ (by omega) (by omega))).1]; exact g2
  · rw [(hf 2 0 (hz _ _ (by omega) (by omega))).1]; exact g3
  · intro q hq; rw [(hf 16 q (hz _ _ (by omega) (by omega))).1]; exact g6 q hq
  · exact fun q hq => (g7 q hq).fr hf (hz _ _ (by omega) (by omega)) (hz _ _ (by omega) (by omega)) (hz _ _ (by omega) (by omega))
  · intro q hq; rw [(hf 16 q (hz _ _ (by omega) (by omega))).1]; exact g9 q hq
  · intro q hq; rw [(hf 16 q (hz _ _ (by omega) (by omega))).1, (hf 16 q (hz _ _ (by omega) (by omega))).1]; exact g10 q hq
  · intro q hq
    unfold va_up
    by_cases e : q = s
    · rw [e, if_pos rfl]; exact hN
    · rw [if_neg e]
      exact (g11 q hq).fr hf (hz _ _ (by omega) (by omega)) (hz _ _ (by omega) (by omega)) (hz _ _ (by omega) (by omega)) (hz _ _ (by omega) (by omega))
  · rw [(hf 0 0 (hz _ _ (by omega) (by omega))).1]; exact g12.1
  · exact fun j o ho => (g12.2.1 j o ho).fr hf (fun a _ _ => hz _ _ (by omega) (by omega)) (hz _ _ (by omega) (by omega)) (hz _ _ (by omega) (by omega))
  · intro j hj1 hj2; rw [(hf 18 j (hz _ _ (by omega) (by omega))).1, (hf 18 j (hz _ _ (by omega) (by omega))).1]; exact g12.2.2 j hj1 hj2
theorem Zt12 : ∀ k z, Zt k z → 12 ≤ k ∧ k ≤ 15 ∧ z = 0 := fun _ _ h => h
/-- the state behind a serving of the line -/
def a_served (a : Sq) : Sq := match a with
  | (now, lat, ts, line, dl, dr, pt, la, jo, tk, fn, os) =>
    let r := a_serve pt dl jo tk line [] ts la fn
    (now, lat, r.2.1, r.1, dl, dr, pt, r.2.2.1, jo, tk, r.2.2.2, os)
theorem JB_serveLine_L {n : Nat} {now lat : Nat} {dl : Nat → Nat} {dr : Nat → List FV} {pt : Nat → Nat → List Fm} {jo : Nat → Nat} {tk : Nat → Bool} {os : List Od} :
    ∀ (todo kept : List Nat) (f : Nat) (ts : List Tp) (la : Nat → Int32) (fn : Nat → Fq) (σ : J), cA n σ (now, lat, ts, kept ++ todo, dl, dr, pt, la, jo, tk, fn, os) → wfA n (now, lat, ts, kept ++ todo, dl, dr, pt, la, jo, tk, fn, os) → todo.length + 70 ≤ f → wp (JB_serveLine_L10 n f (i kept.length) (i todo.length) σ) (fun τ => (let r := a_serve pt dl jo tk todo kept ts la fn; cA n τ (now, lat, r.2.1, r.1, dl, dr, pt, r.2.2.1, jo, tk, r.2.2.2, os) ∧ wfA n (now, lat, r.2.1, r.1, dl, dr, pt, r.2.2.1, jo, tk, r.2.2.2, os) ∧ kO σ τ)) := by
  intro todo
  induction todo with
  | nil =>
    intro kept f ts la fn σ hA hw hf
    obtain ⟨f, rfl⟩ : ∃ g, f = g + 1 := ⟨f - 1, by omega⟩
    unfold JB_serveLine_L10 JB_serveLine_b10
    rw [if_pos (show i ([] : List Nat).length ≤ 0 from by decide), wp_some]
    rw [List.append_nil] at hA hw
    exact ⟨hA, hw, kO.rf⟩
  | cons s todo ih =>
    intro kept f ts la fn σ hA hw hf
    obtain ⟨f, rfl⟩ : ∃ g, f = g + 1 := ⟨f - 1, by omega⟩
    have hfl : todo.length + 70 ≤ f := by simp at hf; omega
    have hA' := hA
    have hw' := hw
    obtain ⟨g1, g2, g3, g4, g5, g6, g7, g8, g9, g10, g11, g12⟩ := hA'
    obtain ⟨w1, w2, w3, w4, w5, w6, w7, w8, w9, w10, w11, w12, w13⟩ := hw'
    have hsm : s ∈ kept ++ s :: todo := by simp
    have hs : s < n := w3 s hsm
    have hlen := g5.2.1
    rw [List.length_append, List.length_cons] at hlen
    have hmem : σ.2.1 22 0 kept.length = i s := g5.2.2.2 kept.length s (by rw [List.getElem?_append_right (Nat.le_refl _), Nat.sub_self]; rfl)
    obtain ⟨j1, j2⟩ := g10 s hsm
    have hjo := w8 s hsm
    unfold JB_serveLine_L10 JB_serveLine_b10 JB_serveLine_b58
    rw [if_neg (by rw [List.length_cons, l0, i_le (by omega) (by omega)]; omega), if_pos (by rw [i_in (by omega)]; omega), i_n (by omega), hmem, if_pos (by rw [i_in (by omega)]; omega), i_n (by omega), g1.1 s hs, if_pos (by rw [blt_eq]; omega), j1]
    refine wp_bind (JB_searchFor_s (n := n) hs (fun p hp => w6 s p hs hp) (w1.s w11) (by omega) hjo.2 g1 g4 g8) (fun q hq => ?_)
    obtain ⟨q1, q2⟩ := q
    obtain ⟨d1, d2, d3⟩ := hq
    replace d1 : q1 = _ := d1
    subst d1
    dsimp only at d2 d3 ⊢
    have hA2 := hA.fr d2 Zt12
    unfold a_serve
    rw [show ((-1 : Int32)) = im from rfl, List.length_cons, i_addm (by omega), Nat.add_sub_cancel]
    cases hse : a_search s ts (pt s) (jo s) with
    | none =>
      rw [if_pos (show b01 (none : Option Fq).isSome = 0 from rfl), l1, i_add]
      have e : kept ++ s :: todo = (kept ++ [s]) ++ todo := by simp
      rw [e] at hA2 hw
      have := ih (kept ++ [s]) f ts la fn q2 hA2 hw hfl
      rw [List.length_append] at this
      exact wp_mono this (fun τ hτ => ⟨hτ.1, hτ.2.1, (kO.fr d2 (fun z => by unfold Zt; omega)).tr hτ.2.2⟩)
    | some r =>
      rw [if_neg (show ¬ b01 (some r).isSome = 0 from (by decide : ¬ b01 true = 0))]
      obtain ⟨k1, k2, k3, k4, k5, k6, k7, k8, k9, k10, k11, k12⟩ := hA2
      obtain ⟨m1, m2⟩ := k10 s hsm
      refine wp_bind (JB_grant_s (n := n) (tk := tk s) hs hjo.2 (a_search_len hse) (w4 s hs) (by omega) k4 w1.1 (d3 r hse) m1 m2 (k1.2.1 s hs) (k6 s hs)) (fun τ hτ => ?_)
      have hA3 := cA_grant (hA.fr d2 Zt12) hτ.1 hτ.2.1 hτ.2.2.1
      have hw3 : wfA n (now, lat, a_grant s (dl s) (tk s) ts r, kept ++ s :: todo, dl, dr, pt, la, jo, tk, va_up fn s r, os) := wfA_grant hw hs
      refine wp_bind (JB_endWait_s (n := n) (v := 2) (by omega) (by omega) (hA3.1.2.1 s hs) hA3.2.2.2.2.1) (fun υ hυ => ?_)
      have hA4 := cA_leave hA3 w2 hs hυ.1 hυ.2.1 hυ.2.2.1 hυ.2.2.2
      have hw4 := wfA_leave (s := s) (v := i 2) hw3 (Or.inr (Or.inl rfl))
      have he : (kept ++ s :: todo).erase s = kept ++ todo := by
        have hnk : s ∉ kept := by
          rw [List.nodup_append] at w2
          exact fun q => w2.2.2 s q s List.mem_cons_self rfl
        rw [List.erase_append_right _ hnk, List.erase_cons_head]
      rw [he] at hA4 hw4
      exact wp_mono (ih kept f (a_grant s (dl s) (tk s) ts r) (va_up la s (i 2)) (va_up fn s r) υ hA4 hw4 hfl) (fun ρ hρ => ⟨hρ.1, hρ.2.1, ((kO.fr d2 (fun z => by unfold Zt; omega)).tr hτ.2.2.2).tr ((kO.fr hυ.2.1 (fun z => by omega)).tr hρ.2.2)⟩)
theorem JB_serveLine_s {n f : Nat} {a : Sq} {σ : J} (hA : cA n σ a) (hw : wfA n a) (hf : 80 ≤ f) : wp (JB_serveLine n f σ) (fun τ => cA n τ (a_served a) ∧ wfA n (a_served a) ∧ kO σ τ) := by
  obtain ⟨now, lat, ts, line, dl, dr, pt, la, jo, tk, fn, os⟩ := a
  have h1 := hA.2.2.2.2.1.1
  have h2 := hA.2.2.2.2.1.2.1
  unfold JB_serveLine JB_serveLine_b0
  rw [h1]
  exact JB_serveLine_L line [] f ts la fn σ hA hw (by omega)
