/-! The reference serves its line, goes outside, adds. Ours. -/
theorem okTs.b {n now lat : Nat} {dl : Nat → Nat} {ts : List Tp} (h : okTs n now lat dl ts) (h4 : ∀ s, s < n → dl s ≤ 4) : okB n ts := ⟨h.1, fun t ht => ⟨(h.2 t ht).m h4, (h.2 t ht).2.2.2.2⟩⟩
theorem mA_grant {n s : Nat} {now lat : Nat} {ts : List Tp} {line : List Nat} {dl : Nat → Nat} {dr : Nat → List FV} {pt : Nat → Nat → List Fm} {la : Nat → Int32} {jo : Nat → Nat} {tk : Nat → Bool} {fn : Nat → Fq} {os : List Od} {ts1 : List Tp} {r : Fq} {σ τ : J} (h : mA n σ (now, lat, ts, line, dl, dr, pt, la, jo, tk, fn, os)) (hN : mN τ s r) (ho : othF s σ τ) (hB : mB τ ts1) (hf : mf Kk F1 σ τ) : mA n τ (now, lat, ts1, line, dl, dr, pt, la, jo, tk, va_up fn s r, os) := by
  obtain ⟨h1, h2, h3, h4, h5, h6, h7, h8, h9, h10, h11, h12, h13⟩ := h
  exact ⟨by rw [hf.2 13 (by unfold F1; omega)]; exact h1, by rw [hf.2 3 (by unfold F1; omega)]; exact h2, by rw [hf.2 2 (by unfold F1; omega)]; exact h3, hB, h5.fr hf (by unfold Kk Kr Kf; omega) (by unfold F1; omega), fun q hq => by rw [(hf.1 34 (by unfold Kk Kr Kf; omega)).1]; exact h6 q hq, fun q hq => by rw [(hf.1 35 (by unfold Kk Kr Kf; omega)).1, (hf.1 36 (by unfold Kk Kr Kf; omega)).1, (hf.1 37 (by unfold Kk Kr Kf; omega)).2]; exact h7 q hq, fun q p hq hp => (h8 q p hq hp).fr hf (fun k _ _ => (by unfold Kk Kr Kf; omega)), fun q hq => by rw [(hf.1 45 (by unfold Kk Kr Kf; omega)).1]; exact h9 q hq, fun q hq => by rw [(hf.1 43 (by unfold Kk Kr Kf; omega)).1, (hf.1 44 (by unfold Kk Kr Kf; omega)).1]; exact h10 q hq, fun q hq => by
    unfold va_up
    by_cases e : q = s
    · rw [if_pos e, e]; exact hN
    · rw [if_neg e]; exact ho.N e (h11 q hq), h12.fr hf (fun k _ _ => by unfold Kk Kr Kf; omega) (by unfold Kk Kr Kf; omega) (by unfold Kk Kr Kf; omega) (by unfold Kk Kr Kf; omega) (by unfold F1; omega), fun v hv => by rw [(hf.1 52 (by unfold Kk Kr Kf; omega)).1]; exact h13 v hv⟩
theorem mA_se {n : Nat} {a : Sq} {σ τ : J} (h : mA n σ a) (hf : mf (fun k => 52 ≤ k ∧ k ≤ 54) (fun _ => False) σ τ) (h0 : ∀ v, v < 4 → τ.2.1 52 0 v = im) : mA n τ a := by
  obtain ⟨now, lat, ts, line, dl, dr, pt, la, jo, tk, fn, os⟩ := a
  obtain ⟨h1, h2, h3, h4, h5, h6, h7, h8, h9, h10, h11, h12, h13⟩ := h
  exact ⟨by rw [hf.2 13 (fun q => q)]; exact h1, by rw [hf.2 3 (fun q => q)]; exact h2, by rw [hf.2 2 (fun q => q)]; exact h3, h4.fr hf (fun k _ _ => by omega) (fun q => q), h5.fr hf (by omega) (fun q => q), fun q hq => by rw [(hf.1 34 (by omega)).1]; exact h6 q hq, fun q hq => by rw [(hf.1 35 (by omega)).1, (hf.1 36 (by omega)).1, (hf.1 37 (by omega)).2]; exact h7 q hq, fun q p hq hp => (h8 q p hq hp).fr hf (fun k _ _ => (by omega)), fun q hq => by rw [(hf.1 45 (by omega)).1]; exact h9 q hq, fun q hq => by rw [(hf.1 43 (by omega)).1, (hf.1 44 (by omega)).1]; exact h10 q hq, fun q hq => (h11 q hq).fr hf (by omega) (by omega) (by omega), h12.fr hf (fun k _ _ => by omega) (by omega) (by omega) (by omega) (fun q => q), h0⟩
theorem mA_code {n : Nat} {a : Sq} {σ : J} {v : Int32} (h : mA n σ a) : mA n (q_sI σ 24 0 0 v) a := by
  obtain ⟨now, lat, ts, line, dl, dr, pt, la, jo, tk, fn, os⟩ := a
  obtain ⟨h1, h2, h3, h4, h5, h6, h7, h8, h9, h10, h11, h12, h13⟩ := h
  have hf : mf (fun _ => False) (fun f => f = 0) σ (q_sI σ 24 0 0 v) := mf.rf.sI rfl
  exact ⟨by rw [hf.2 13 (by omega)]; exact h1, by rw [hf.2 3 (by omega)]; exact h2, by rw [hf.2 2 (by omega)]; exact h3, h4.fr hf (fun k _ _ q => q) (by omega), h5.fr hf (fun q => q) (by omega), fun q hq => by rw [(hf.1 34 (by exact fun q => q)).1]; exact h6 q hq, fun q hq => by rw [(hf.1 35 (by exact fun q => q)).1, (hf.1 36 (by exact fun q => q)).1, (hf.1 37 (by exact fun q => q)).2]; exact h7 q hq, fun q p hq hp => (h8 q p hq hp).fr hf (fun k _ _ => (by exact fun q => q)), fun q hq => by rw [(hf.1 45 (by exact fun q => q)).1]; exact h9 q hq, fun q hq => by rw [(hf.1 43 (by exact fun q => q)).1, (hf.1 44 (by exact fun q => q)).1]; exact h10 q hq, fun q hq => (h11 q hq).fr hf (by exact fun q => q) (by exact fun q => q) (by exact fun q => q), h12.fr hf (fun k _ _ q => q) (fun q => q) (fun q => q) (fun q => q) (by omega), fun v hv => by rw [(hf.1 52 (by exact fun q => q)).1]; exact h13 v hv⟩
theorem M_serve_L {n B0 : Nat} (hB0 : 18100 ≤ B0) {now lat : Nat} {dl : Nat → Nat} {dr : Nat → List FV} {pt : Nat → Nat → List Fm} {jo : Nat → Nat} {tk : Nat → Bool} {os : List Od} :
    ∀ (todo kept : List Nat) (f : Nat) (ts : List Tp) (la : Nat → Int32) (fn : Nat → Fq) (σ : J), mA n σ (now, lat, ts, kept ++ todo, dl, dr, pt, la, jo, tk, fn, os) → wfA n (now, lat, ts, kept ++ todo, dl, dr, pt, la, jo, tk, fn, os) → todo.length + B0 ≤ f → wp (M_serve_L2 n f (i kept.length) σ) (fun τ => (let r := a_serve pt dl jo tk todo kept ts la fn; mA n τ (now, lat, r.2.1, r.1, dl, dr, pt, r.2.2.1, jo, tk, r.2.2.2, os)) ∧ τ.1 24 0 0 = σ.1 24 0 0) := by
  intro todo
  induction todo with
  | nil =>
    intro kept f ts la fn σ hA hw hf
    obtain ⟨f, rfl⟩ : ∃ g, f = g + 1 := ⟨f - 1, by omega⟩
    obtain ⟨w1, w2, w3, w4, w5, w6, w7, w8, w9, w10, w11, w12, w13⟩ := hw
    rw [List.append_nil] at hA w2 w3
    have h5 := hA.2.2.2.2.1.1
    have hk4 := php n kept w2 w3
    show wp (M_serve_b2 n (M_serve_L2 n f) f (i kept.length) σ) _
    unfold M_serve_b2
    rw [h5, if_pos (by rw [i_le (by omega) (by omega)]; omega), wp_some]
    exact ⟨hA, rfl⟩
  | cons s todo ih =>
    intro kept f ts la fn σ hA hw hf
    obtain ⟨f, rfl⟩ : ∃ g, f = g + 1 := ⟨f - 1, by omega⟩
    have hfl : todo.length + B0 ≤ f := by simp at hf; omega
    have hA' := hA
    have hw' := hw
    obtain ⟨h1, h2, h3, h4, h5, h6, h7, h8, h9, h10, h11, h12, h13⟩ := hA'
    obtain ⟨w1, w2, w3, w4, w5, w6, w7, w8, w9, w10, w11, w12, w13⟩ := hw'
    have hsm : s ∈ kept ++ s :: todo := by simp
    have hs : s < n := w3 s hsm
    have hk4 := php n _ w2 w3
    have hkl : kept.length < (kept ++ s :: todo).length := by rw [List.length_append, List.length_cons]; omega
    have hl4 : (kept ++ s :: todo).length ≤ 4 := by omega
    have h44 : ∀ q ∈ kept ++ s :: todo, q < 4 := fun q hq => by have := w3 q hq; omega
    have hmem : σ.2.1 42 0 kept.length = i s := h5.2 kept.length s get_mid
    obtain ⟨j0, j1, j2⟩ := h10 s hsm
    have hjo := w8 s hsm
    have his : q_in (i s) 4 = true := by rw [i_in (by omega)]; omega
    show wp (M_serve_b2 n (M_serve_L2 n f) f (i kept.length) σ) _
    unfold M_serve_b2 M_serve_b68 M_serve_b77
    rw [h5.1, if_neg (by rw [i_le (by omega) (by omega)]; omega), if_pos (by rw [i_in (by omega)]; omega), i_n (by omega), hmem, if_pos his, i_n (by omega), j1]
    refine wp_bind (M_search_s (n := n) (pt := pt s) w13 hs hjo.1 hjo.2 (fun p hp => w6 s p hs hp) (w1.b w4) (by omega) h4 (fun p hp => h8 s p hs hp) h13) (fun q hq => ?_)
    obtain ⟨q1, q2⟩ := q
    obtain ⟨d1, d2, d3, d4⟩ := hq
    replace d1 : q1 = _ := d1
    subst d1
    dsimp only at d2 d3 d4 ⊢
    have hA2 := mA_se hA d2 d3
    have hcd : q2.1 24 0 0 = σ.1 24 0 0 := d2.2 0 (fun q => q)
    unfold a_serve
    cases hse : a_search s ts (pt s) (jo s) with
    | none =>
      rw [if_pos (show b01 (none : Option Fq).isSome = 0 from rfl), l1, i_add]
      have e : kept ++ s :: todo = (kept ++ [s]) ++ todo := by simp
      rw [e] at hA2 hw
      have := ih (kept ++ [s]) f ts la fn q2 hA2 hw hfl
      rw [List.length_append] at this
      exact wp_mono this (fun τ hτ => ⟨hτ.1, hτ.2.trans hcd⟩)
    | some r =>
      rw [if_neg (show ¬ b01 (some r).isSome = 0 from (by decide : ¬ b01 true = 0))]
      have hA2' := hA2
      obtain ⟨k1, k2, k3, k4, k5, k6, k7, k8, k9, k10, k11, k12, k13⟩ := hA2'
      refine wp_bind (M_leave_s (n := n) k5 hl4 h44 w2 hsm (by omega)) (fun τ hτ => ?_)
      obtain ⟨hf1, hL1⟩ := hτ
      simp only [his, if_true, bs_eq]
      have hok := a_dfs_ok (fun t ht => (w1.2 t ht).2.2.2.2.2) hse (fun v x e => by cases e) List.nodup_nil
      have he : (kept ++ s :: todo).erase s = kept ++ todo := by
        have hnk : s ∉ kept := by
          rw [List.nodup_append] at w2
          exact fun q => w2.2.2 s q s List.mem_cons_self rfl
        rw [List.erase_append_right _ hnk, List.erase_cons_head]
      -- the session has left, its wait has ended
      have hf : mf (fun k => k = 42 ∨ k = 45) (fun f => f = 22) q2 (q_sA τ 45 0 (upd (τ.2.1 45 0) s 2)) := (hf1.up (fun k q => Or.inl q) (fun f q => q)).sA (Or.inr rfl)
      generalize hρ : q_sA τ 45 0 (upd (τ.2.1 45 0) s 2) = ρ at hf ⊢
      have hA3 : mA n ρ (now, lat, ts, kept ++ todo, dl, dr, pt, va_up la s (i 2), jo, tk, fn, os) := by
        refine ⟨by rw [hf.2 13 (by omega)]; exact k1, by rw [hf.2 3 (by omega)]; exact k2, by rw [hf.2 2 (by omega)]; exact k3, k4.fr hf (fun k _ _ => by omega) (by omega), ?_, fun q hq => by rw [(hf.1 34 (by omega)).1]; exact k6 q hq, fun q hq => by rw [(hf.1 35 (by omega)).1, (hf.1 36 (by omega)).1, (hf.1 37 (by omega)).2]; exact k7 q hq, fun q p hq hp => (k8 q p hq hp).fr hf (fun k _ _ => by omega), fun q hq => ?_, fun q hq => ?_, fun q hq => (k11 q hq).fr hf (by omega) (by omega) (by omega), k12.fr hf (fun k _ _ => by omega) (by omega) (by omega) (by omega) (by omega), fun v hv => by rw [(hf.1 52 (by omega)).1]; exact k13 v hv⟩
        · rw [← he, ← hρ]
          exact hL1
        · rw [← hρ]
          show upd (τ.2.1 45 0) s 2 q = va_up la s (i 2) q
          unfold upd va_up
          by_cases e : q = s
          · rw [if_pos e, if_pos e]; rfl
          · rw [if_neg e, if_neg e, (hf1.1 45 (by omega)).1]; exact k9 q hq
        · have hqm : q ∈ kept ++ s :: todo := by rw [← he] at hq; exact List.mem_of_mem_erase hq
          have hqs : q ≠ s := fun e => by rw [e, ← he] at hq; exact w2.not_mem_erase hq
          obtain ⟨x0, x1, x2⟩ := k10 q hqm
          unfold va_up
          rw [if_neg hqs, (hf.1 43 (by omega)).1, (hf.1 44 (by omega)).1]
          exact ⟨x0, x1, x2⟩
      have hw3 : wfA n (now, lat, a_grant s (dl s) (tk s) ts r, kept ++ todo, dl, dr, pt, va_up la s (i 2), jo, tk, va_up fn s r, os) := by
        have := wfA_leave (s := s) (v := i 2) (wfA_grant (fn1 := va_up fn s r) (tk1 := tk) (b := tk s) (r := r) hw hs) (Or.inr (Or.inl rfl))
        rw [he] at this
        exact this
      have h43 : ρ.2.1 43 0 s = i (jo s) := by rw [(hf.1 43 (by omega)).1, (d2.1 43 (by omega)).1]; exact j1
      have h44' : ρ.2.1 44 0 s &&& 1 = b01 (tk s) := by rw [(hf.1 44 (by omega)).1, (d2.1 44 (by omega)).1]; exact j2
      have hAt : mAt ρ ts r.1 := fun j m hm => by rw [(hf.1 54 (by omega)).1]; exact (d4 r hse).1 j m hm
      have hbd : mbd ρ (jo s) r.2 := fun v hv => by rw [(hf.1 52 (by omega)).1, (hf.1 53 (by omega)).2]; exact (d4 r hse).2 v hv
      have hcr : ρ.1 24 0 0 = σ.1 24 0 0 := (hf.2 0 (by omega)).trans hcd
      rw [h43, h44']
      have fin : ∀ b : Bool, b = tk s → wp ((M_keep n f (i s) (i (jo s)) (b01 b) ρ).bind fun q4 => M_serve_L2 n f (i kept.length) q4) (fun τ => (let r := a_serve pt dl jo tk todo kept (a_grant s (dl s) (tk s) ts r) (va_up la s (i 2)) (va_up fn s r); mA n τ (now, lat, r.2.1, r.1, dl, dr, pt, r.2.2.1, jo, tk, r.2.2.2, os)) ∧ τ.1 24 0 0 = σ.1 24 0 0) := by
        intro b hb
        subst hb
        refine wp_bind (M_keep_s (n := n) (f := f) (tk := tk s) (by omega) hjo.2 (a_search_len hse) (w4 s hs) (by omega) hAt hbd hok.1 hok.2 hA3.2.2.2.1 w1.1 (fun t ht => (w1.2 t ht).2.2.2.2.1) (hA3.2.2.2.2.2.1 s hs)) (fun ω hω => ?_)
        obtain ⟨o1, o2, o3, o4⟩ := hω
        exact wp_mono (ih kept f _ _ _ ω (mA_grant hA3 o1 o2 o3 o4) hw3 hfl) (fun τ hτ => ⟨hτ.1, (hτ.2.trans (o4.2 0 (by unfold F1; omega))).trans hcr⟩)
      cases htk : tk s with
      | true => rw [if_pos (show b01 true = 1 from rfl)]; rw [htk] at fin; exact fin true rfl
      | false => rw [if_neg (show ¬ b01 false = 1 by decide)]; rw [htk] at fin; exact fin false rfl
theorem M_serve_s {n f : Nat} {a : Sq} {σ : J} (hA : mA n σ a) (hw : wfA n a) (hf : 18200 ≤ f) : wp (M_serve n f σ) (fun τ => mA n τ (a_served a) ∧ τ.1 24 0 0 = σ.1 24 0 0) := by
  obtain ⟨now, lat, ts, line, dl, dr, pt, la, jo, tk, fn, os⟩ := a
  obtain ⟨w1, w2, w3, w4, w5, w6, w7, w8, w9, w10, w11, w12, w13⟩ := hw
  have hk4 := php n line w2 w3
  unfold M_serve M_serve_b0
  exact M_serve_L (B0 := 18100) (Nat.le_refl _) line [] f ts la fn σ hA ⟨w1, w2, w3, w4, w5, w6, w7, w8, w9, w10, w11, w12, w13⟩ (by omega)
