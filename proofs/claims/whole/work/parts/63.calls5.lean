/-! The class's calls: find, swap. Ours. -/
theorem php : ∀ (n : Nat) (l : List Nat), l.Nodup → (∀ x ∈ l, x < n) → l.length ≤ n := by
  intro n
  induction n with
  | zero =>
    intro l _ h
    cases l with
    | nil => exact Nat.le_refl _
    | cons a r => exact absurd (h a List.mem_cons_self) (by omega)
  | succ n ih =>
    intro l hn h
    have h1 := ih (l.erase n) (hn.sublist List.erase_sublist) (fun x hx => by
      have h2 := h x (List.mem_of_mem_erase hx)
      have h3 : x ≠ n := fun e => by rw [e] at hx; exact hn.not_mem_erase hx
      omega)
    rw [List.length_erase] at h1
    split at h1 <;> omega
theorem line_lt {n : Nat} {line : List Nat} {s : Nat} (hn : line.Nodup) (h : ∀ s ∈ line, s < n) (hs : s < n) (hm : s ∉ line) (h4 : n ≤ 4) : line.length < 4 := by
  have := php n (s :: line) (List.nodup_cons.mpr ⟨hm, hn⟩) (fun x hx => by
    rcases List.mem_cons.mp hx with rfl | hx
    · exact hs
    · exact h x hx)
  rw [List.length_cons] at this
  omega
theorem va_up2 {α : Type} {g : Nat → α} {s : Nat} {a b : α} : va_up (va_up g s a) s b = va_up g s b := by
  funext z
  unfold va_up
  by_cases e : z = s
  · rw [if_pos e, if_pos e]
  · rw [if_neg e, if_neg e, if_neg e]
theorem Session_ask_s {n f s : Nat} {x : Int32} {b : Bool} {now lat : Nat} {ts : List Tp} {line : List Nat} {dl : Nat → Nat} {dr : Nat → List FV} {pt : Nat → Nat → List Fm} {la : Nat → Int32} {jo : Nat → Nat} {tk : Nat → Bool} {fn : Nat → Fq} {os : List Od} {σ : J} (hA : cA n σ (now, lat, ts, line, dl, dr, pt, la, jo, tk, fn, os)) (hw : wfA n (now, lat, ts, line, dl, dr, pt, la, jo, tk, fn, os)) (hs : s < n) (hm : s ∉ line) (hf : 10 ≤ f) : wp (Session_ask n f s x (b01 b) σ) (fun τ => cA n τ (now, lat, ts, line, dl, dr, pt, va_up la s (i 0), jo, tk, va_up fn s a_fn0, os) ∧ τ.1 16 6 s = x ∧ τ.1 16 7 s = b01 b ∧ fr (fun a b => (a = 16 ∧ b = s) ∨ (12 ≤ a ∧ a ≤ 13 ∧ b = s + 1)) σ τ) := by
  obtain ⟨w1, w2, w3, w4, w5, w6, w7, w8, w9, w10, w11, w12, w13⟩ := hw
  obtain ⟨g1, g2, g3, g4, g5, g6, g7, g8, g9, g10, g11, g12⟩ := hA
  unfold Session_ask Session_ask_b0
  simp only [bs_eq, b01_a, if_true]
  refine wp_bind (Finding_clear_s (n := n) (y := s + 1) (by omega)) (fun τ hτ => ?_)
  rw [wp_some]
  obtain ⟨t1, t2⟩ := hτ
  have hf : fr (fun a b => (a = 16 ∧ b = s) ∨ (12 ≤ a ∧ a ≤ 13 ∧ b = s + 1)) σ τ := (((fr.rf.sI (Or.inl ⟨rfl, rfl⟩)).sI (Or.inl ⟨rfl, rfl⟩)).sI (Or.inl ⟨rfl, rfl⟩)).tr (t2.up (fun a b q => Or.inr q))
  have e16 : ∀ g z, τ.1 16 g z = _ := fun g z => (t2 16 z (by omega)).1 g
  have e0 : ∀ g z, g ≠ 5 → g ≠ 6 → g ≠ 7 → τ.1 16 g z = σ.1 16 g z := fun g z h1 h2 h3 => by
    rw [e16, sI1, if_neg (by omega), sI1, if_neg (by omega), sI1, if_neg (by omega)]
  have e1 : ∀ g z, z ≠ s → τ.1 16 g z = σ.1 16 g z := fun g z h1 => by
    rw [e16, sI1, if_neg (by omega), sI1, if_neg (by omega), sI1, if_neg (by omega)]
  refine ⟨⟨g1.fr hf (by omega) (fun q _ => Or.inr (e0 0 q (by decide) (by decide) (by decide))) (fun q _ => by omega) (by omega), by rw [(hf 0 0 (by omega)).1]; exact g2, by rw [(hf 2 0 (by omega)).1]; exact g3, g4.fr hf (by omega) (by omega) (fun z _ => (by omega)), g5.fr hf (by omega) (by omega), fun q hq => by rw [e0 4 q (by decide) (by decide) (by decide)]; exact g6 q hq, fun q hq => (g7 q hq).fr hf (by omega) (by omega) (by omega), g8.fr hf (fun a z _ _ _ => (by omega)), fun q hq => ?_, fun q hq => ?_, fun q hq => ?_, g12.fr w10 hf (by omega) (fun a z _ _ _ => (by omega)) (fun z _ => (by omega))⟩, ?_, ?_, hf⟩
  · unfold va_up
    by_cases e : q = s
    · rw [e, if_pos rfl, if_neg hm, e16, sI1, if_pos ⟨rfl, rfl, rfl⟩]; rfl
    · rw [if_neg e, e1 5 q e]; exact g9 q hq
  · have hne : q ≠ s := fun e => hm (e ▸ hq)
    rw [e1 6 q hne, e1 7 q hne]; exact g10 q hq
  · unfold va_up
    by_cases e : q = s
    · rw [e, if_pos rfl]; exact t1
    · rw [if_neg e]; exact (g11 q hq).fr hf (by omega) (by omega) (by omega) (by omega)
  · rw [e16, sI1, if_neg (by omega), sI1, if_neg (by omega), sI1, if_pos ⟨rfl, rfl, rfl⟩]
  · rw [e16, sI1, if_neg (by omega), sI1, if_pos ⟨rfl, rfl, rfl⟩]
theorem wfA_ask {n s : Nat} {now lat : Nat} {ts : List Tp} {line : List Nat} {dl : Nat → Nat} {dr : Nat → List FV} {pt : Nat → Nat → List Fm} {la : Nat → Int32} {jo : Nat → Nat} {tk : Nat → Bool} {fn : Nat → Fq} {os : List Od} {fn1 : Nat → Fq} (hw : wfA n (now, lat, ts, line, dl, dr, pt, la, jo, tk, fn, os)) : wfA n (now, lat, ts, line, dl, dr, pt, va_up la s (i 0), jo, tk, fn1, os) := by
  obtain ⟨w1, w2, w3, w4, w5, w6, w7, w8, w9, w10, w11, w12, w13⟩ := hw
  refine ⟨w1, w2, w3, w4, w5, w6, fun q hq => ?_, w8, w9, w10, w11, w12, w13⟩
  unfold va_up
  split
  · exact Or.inl rfl
  · exact w7 q hq
theorem hasP_i {pt : Nat → List Fm} {x : Int32} (h : a_hasP pt x = true) : ∃ m, 1 ≤ m ∧ m ≤ 3 ∧ x = i m ∧ x.toNatClampNeg = m := by
  unfold a_hasP at h
  rw [Bool.and_eq_true, Bool.and_eq_true, decide_eq_true_iff, decide_eq_true_iff] at h
  obtain ⟨⟨h1, h3⟩, -⟩ := h
  have h0 : 0 ≤ x := by
    rw [Int32.le_iff_toInt_le] at h1 ⊢
    have e1 : (1 : Int32).toInt = 1 := rfl
    have e2 : (0 : Int32).toInt = 0 := rfl
    omega
  rw [i_of h0, l3, i_le (i_cl x) (by decide)] at h3
  rw [i_of h0, l1, i_le (by decide) (i_cl x)] at h1
  exact ⟨_, h1, h3, i_of h0, rfl⟩
theorem wfA_wait {n s m : Nat} {now lat : Nat} {ts : List Tp} {line : List Nat} {dl : Nat → Nat} {dr : Nat → List FV} {pt : Nat → Nat → List Fm} {la : Nat → Int32} {jo : Nat → Nat} {tk : Nat → Bool} {fn : Nat → Fq} {os : List Od} {tk1 : Nat → Bool} {fn1 : Nat → Fq} (hw : wfA n (now, lat, ts, line, dl, dr, pt, la, jo, tk, fn, os)) (hs : s < n) (hm : s ∉ line) (h1 : 1 ≤ m ∧ m ≤ 3) : wfA n (now, lat, ts, line ++ [s], dl, dr, pt, la, va_up jo s m, tk1, fn1, os) := by
  obtain ⟨w1, w2, w3, w4, w5, w6, w7, w8, w9, w10, w11, w12, w13⟩ := hw
  refine ⟨w1, ?_, fun q hq => ?_, w4, w5, w6, w7, fun q hq => ?_, w9, w10, w11, w12, w13⟩
  · rw [List.nodup_append]
    exact ⟨w2, by simp, fun a ha b hb => by rw [List.mem_singleton.mp hb]; exact fun e => hm (e ▸ ha)⟩
  · rcases List.mem_append.mp hq with hq | hq
    · exact w3 q hq
    · rw [List.mem_singleton.mp hq]; exact hs
  · unfold va_up
    split
    · exact h1
    · rename_i hne
      rcases List.mem_append.mp hq with hq | hq
      · exact w8 q hq
      · exact absurd (List.mem_singleton.mp hq) hne
theorem JB_find_s {n f : Nat} {x j h : Int32} {a : Sq} {σ : J} (hA : cA n σ a) (hw : wfA n a) (hf : 100 ≤ f) : wp (JB_find n f x j h σ) (fun q => q.1 = (o_find n x j h a).1 ∧ cA n q.2 (o_find n x j h a).2 ∧ wfA n (o_find n x j h a).2) := by
  obtain ⟨now, lat, ts, line, dl, dr, pt, la, jo, tk, fn, os⟩ := a
  unfold JB_find JB_find_b0 JB_find_b25 o_find
  rw [JB_readySession_s hA hw, some_bind]
  dsimp only
  cases hfi : a_first n line x with
  | inr e => rw [wp_some]; exact ⟨rfl, hA, hw⟩
  | inl s =>
    have hw' := hw
    obtain ⟨w1, w2, w3, w4, w5, w6, w7, w8, w9, w10, w11, w12, w13⟩ := hw'
    obtain ⟨hs, hxs, hml⟩ := first_i w13 hfi
    have hA' := hA
    obtain ⟨g1, g2, g3, g4, g5, g6, g7, g8, g9, g10, g11, g12⟩ := hA'
    dsimp only
    rw [if_pos (by rw [blt_eq]; omega)]
    by_cases h0 : 0 ≤ h
    · rw [if_neg (nlt_of_le h0)]
      by_cases h3 : h ≤ 3
      · rw [if_neg (nlt_of_le h3), Session_hasPatterns_s (n := n) hs g1 g8 (fun p hp => w6 s p hs hp) (by omega), some_bind]
        dsimp only
        cases hP : a_hasP (pt s) j with
        | false =>
          rw [if_pos (show b01 false = 0 from rfl), if_neg (fun q => by cases q.2.2), wp_some]
          exact ⟨rfl, hA, hw⟩
        | true =>
          rw [if_neg (show ¬ b01 true = 0 by decide), if_pos (show 0 ≤ h ∧ h ≤ 3 ∧ true = true from ⟨h0, h3, rfl⟩)]
          obtain ⟨m, hm1, hm3, e1, e2⟩ := hasP_i hP
          have key : ∀ (b : Bool), b = (!decide (h &&& 1 = 0)) → wp (JB_find_b47 n f x j h s s j (b01 b) σ) (fun q => q.1 = (match a_search s ts (pt s) j.toNatClampNeg with
              | some r => ((.inl (r.1.getD 0 im), (now, lat, a_grant s (dl s) (!decide (h &&& 1 = 0)) ts r, line, dl, dr, pt, va_up la s (i 0), jo, tk, va_up fn s r, os)) : (Int32 ⊕ Nat) × Sq)
              | none => if h &&& 2 = 0 then (.inl im, (now, lat, ts, line, dl, dr, pt, va_up la s (i 0), jo, tk, va_up fn s a_fn0, os))
                else (.inl (i 0), (now, lat, ts, line ++ [s], dl, dr, pt, va_up la s (i 0), va_up jo s j.toNatClampNeg, va_up tk s (!decide (h &&& 1 = 0)), va_up fn s a_fn0, os))).1 ∧ cA n q.2 (match a_search s ts (pt s) j.toNatClampNeg with
              | some r => ((.inl (r.1.getD 0 im), (now, lat, a_grant s (dl s) (!decide (h &&& 1 = 0)) ts r, line, dl, dr, pt, va_up la s (i 0), jo, tk, va_up fn s r, os)) : (Int32 ⊕ Nat) × Sq)
              | none => if h &&& 2 = 0 then (.inl im, (now, lat, ts, line, dl, dr, pt, va_up la s (i 0), jo, tk, va_up fn s a_fn0, os))
                else (.inl (i 0), (now, lat, ts, line ++ [s], dl, dr, pt, va_up la s (i 0), va_up jo s j.toNatClampNeg, va_up tk s (!decide (h &&& 1 = 0)), va_up fn s a_fn0, os))).2 ∧ wfA n (match a_search s ts (pt s) j.toNatClampNeg with
              | some r => ((.inl (r.1.getD 0 im), (now, lat, a_grant s (dl s) (!decide (h &&& 1 = 0)) ts r, line, dl, dr, pt, va_up la s (i 0), jo, tk, va_up fn s r, os)) : (Int32 ⊕ Nat) × Sq)
              | none => if h &&& 2 = 0 then (.inl im, (now, lat, ts, line, dl, dr, pt, va_up la s (i 0), jo, tk, va_up fn s a_fn0, os))
                else (.inl (i 0), (now, lat, ts, line ++ [s], dl, dr, pt, va_up la s (i 0), va_up jo s j.toNatClampNeg, va_up tk s (!decide (h &&& 1 = 0)), va_up fn s a_fn0, os))).2) := by
            intro b hb
            rw [← hb, e2]
            unfold JB_find_b47
            refine wp_bind (Session_ask_s (n := n) (x := j) (b := b) hA hw hs hml (by omega)) (fun τ hτ => ?_)
            obtain ⟨hA1, t6, t7, -⟩ := hτ
            rw [e1] at t6 ⊢
            have hw1 : wfA n (now, lat, ts, line, dl, dr, pt, va_up la s (i 0), jo, tk, va_up fn s a_fn0, os) := wfA_ask hw
            refine wp_bind (JB_searchFor_s (n := n) hs (fun p hp => w6 s p hs hp) (w1.s w11) (by omega) hm3 hA1.1 hA1.2.2.2.1 hA1.2.2.2.2.2.2.2.1) (fun q hq => ?_)
            obtain ⟨q1, q2⟩ := q
            obtain ⟨d1, d2, d3⟩ := hq
            replace d1 : q1 = _ := d1
            subst d1
            dsimp only at d2 d3 ⊢
            have hA2 := hA1.fr d2 Zt12
            have h16 : ∀ g, q2.1 16 g s = τ.1 16 g s := fun g => (d2 16 s (by unfold Zt; omega)).1 g
            cases hse : a_search s ts (pt s) m with
            | none =>
              rw [if_pos (show b01 (none : Option Fq).isSome = 0 from rfl)]
              dsimp only
              by_cases hW : h &&& 2 = 0
              · rw [if_pos hW, if_pos hW, wp_some]
                exact ⟨rfl, hA2, hw1⟩
              · rw [if_neg hW, if_neg hW, bs_eq, hxs]
                have hlt := line_lt w2 w3 hs hml w13
                have hL1 : cL (q_sI q2 16 5 s 1) line := ⟨by rw [sI1, if_neg (by omega)]; exact hA2.2.2.2.2.1.1, hA2.2.2.2.2.1.2⟩
                refine wp_bind (Line_append_s (n := n) hL1 hlt (show s < 4 by omega)) (fun υ hυ => ?_)
                rw [wp_some]
                obtain ⟨u1, u2⟩ := hυ
                have hf : fr (fun a b => (a = 16 ∧ b = s) ∨ (21 ≤ a ∧ a ≤ 22 ∧ b = 0)) q2 υ := (fr.rf.sI (Or.inl ⟨rfl, rfl⟩)).tr (u2.up (fun a b q => Or.inr q))
                have e16 : ∀ g z, υ.1 16 g z = _ := fun g z => (u2 16 z (by omega)).1 g
                have e0 : ∀ g z, (g ≠ 5 ∨ z ≠ s) → υ.1 16 g z = q2.1 16 g z := fun g z h1 => by
                  rw [e16, sI1, if_neg (by omega)]
                obtain ⟨g1, g2, g3, g4, g5, g6, g7, g8, g9, g10, g11, g12⟩ := hA2
                refine ⟨rfl, ⟨g1.fr hf (by omega) (fun q _ => Or.inr (e0 0 q (by omega))) (fun q _ => by omega) (by omega), by rw [(hf 0 0 (by omega)).1]; exact g2, by rw [(hf 2 0 (by omega)).1]; exact g3, g4.fr hf (by omega) (by omega) (fun z _ => (by omega)), u1, fun q hq => by rw [e0 4 q (by omega)]; exact g6 q hq, fun q hq => (g7 q hq).fr hf (by omega) (by omega) (by omega), g8.fr hf (fun a z _ _ _ => (by omega)), fun q hq => ?_, fun q hq => ?_, fun q hq => (g11 q hq).fr hf (by omega) (by omega) (by omega) (by omega), g12.fr w10 hf (by omega) (fun a z _ _ _ => (by omega)) (fun z _ => (by omega))⟩, wfA_wait hw1 hs hml ⟨hm1, hm3⟩⟩
                · by_cases e : q = s
                  · rw [e, if_pos (by simp), e16, sI1, if_pos ⟨rfl, rfl, rfl⟩]; rfl
                  · rw [e0 5 q (Or.inr e), g9 q hq]
                    have : (q ∈ line ++ [s]) = (q ∈ line) := by simp [e]
                    simp only [this]
                · unfold va_up
                  rw [e0 6 q (by omega), e0 7 q (by omega)]
                  by_cases e : q = s
                  · rw [e, if_pos rfl, if_pos rfl, h16, h16]; exact ⟨t6, t7⟩
                  · rw [if_neg e, if_neg e]
                    rcases List.mem_append.mp hq with hq | hq
                    · exact g10 q hq
                    · exact absurd (List.mem_singleton.mp hq) e
            | some r =>
              rw [if_neg (show ¬ b01 (some r).isSome = 0 from (by decide : ¬ b01 true = 0))]
              have hgr := JB_grant_s (n := n) (f := f) (tk := b) (r := r) hs hm3 (a_search_len hse) (w4 s hs) (by omega) hA2.2.2.2.1 w1.1 (d3 r hse) (by rw [h16]; exact t6) (by rw [h16]; exact t7) (hA2.1.2.1 s hs) (hA2.2.2.2.2.2.1 s hs)
              refine wp_bind hgr (fun υ hυ => ?_)
              have hA3 := cA_grant hA2 hυ.1 hυ.2.1 hυ.2.2.1
              rw [l0, Finding_numberFor_s (p := 0) hυ.2.1 (by decide), some_bind, wp_some]
              refine ⟨rfl, ?_, ?_⟩
              · rw [va_up2] at hA3
                exact hA3
              · exact wfA_grant hw1 hs
          by_cases hb : h &&& 1 = 0
          · rw [if_pos hb]
            exact key false (by rw [decide_eq_true hb]; rfl)
          · rw [if_neg hb]
            exact key true (by rw [decide_eq_false hb]; rfl)
      · rw [if_pos (lt_of_nle h3), if_neg (fun q => h3 q.2.1), wp_some]
        exact ⟨rfl, hA, hw⟩
    · rw [if_pos (i_neg h0), if_neg (fun q => h0 q.1), wp_some]
      exact ⟨rfl, hA, hw⟩
