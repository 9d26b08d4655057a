/-! The reference's calls: fold, abandon. Ours. -/
/-- what the folding keeps -/
def mI (w : Int32) (j : Nat) (q : Int64 × Bool) (c fl : Int32) (su mi ma : Int64) : Prop := (w = 0 → ∃ k, k ≤ j ∧ c = i k ∧ q.1 = (i k).toInt64) ∧ (w ≠ 0 → fl = b01 q.2 ∧ (q.2 = false → q.1 = 0) ∧ (w = 1 → su = q.1) ∧ (w = 2 → mi = q.1) ∧ (w = 3 → ma = q.1))
theorem i64_succ : ∀ k, k ≤ 20 → (i k).toInt64 + 1 = (i (k + 1)).toInt64 := by decide +kernel
theorem M_fold_L {n s fi : Nat} {w : Int32} {now lat : Nat} {ts : List Tp} {line : List Nat} {dl : Nat → Nat} {dr : Nat → List FV} {pt : Nat → Nat → List Fm} {la : Nat → Int32} {jo : Nat → Nat} {tk : Nat → Bool} {fn : Nat → Fq} {os : List Od} (hw : wfA n (now, lat, ts, line, dl, dr, pt, la, jo, tk, fn, os)) (hs : s < n) (hfi : fi < 4) (hw4 : w = 0 ∨ w = 1 ∨ w = 2 ∨ w = 3) :
    ∀ (m1 : List Tp) (j f : Nat) (q : Int64 × Bool) (c fl : Int32) (su mi ma : Int64) (σ : J), mA n σ (now, lat, ts, line, dl, dr, pt, la, jo, tk, fn, os) → ts.drop j = m1 → j ≤ ts.length → m1.length + 30 ≤ f → mI w j q c fl su mi ma → wp (M_fold_L72 n f (i s) (i fi) w c fl su mi ma (i j) σ) (fun o => o.1 = (m1.foldl (a_fold1 s (pt s 0) fi w) q).1 ∧ mA n o.2 (now, lat, ts, line, dl, dr, pt, la, jo, tk, fn, os) ∧ o.2.1 24 0 0 = σ.1 24 0 0) := by
  obtain ⟨w1, w2, w3, w4, w5, w6, w7, w8, w9, w10, w11, w12, w13⟩ := hw
  intro m1
  induction m1 with
  | nil =>
    intro j f q c fl su mi ma σ hA hd hj hf hI
    obtain ⟨f, rfl⟩ : ∃ g, f = g + 1 := ⟨f - 1, by omega⟩
    have := List.drop_eq_nil_iff.mp hd
    have hB := hA.2.2.2.1
    have h20 := hB.2.1
    show wp (M_fold_b72 n (M_fold_L72 n f) f (i s) (i fi) w c fl su mi ma (i j) σ) _
    unfold M_fold_b72 M_fold_b243
    refine wp_ite (fun _ => ?_) (fun q_ => absurd (show σ.1 24 1 0 ≤ i j by rw [hB.1, i_le (by omega) (by omega)]; omega) q_)
    show wp _ (fun (o : Int64 × J) => o.1 = q.1 ∧ _)
    rcases hw4 with rfl | rfl | rfl | rfl
    · refine wp_ite (fun _ => ?_) (fun q_ => absurd (rfl) q_)
      obtain ⟨k, k1, k2, k3⟩ := hI.1 rfl
      exact wp_s ⟨by rw [k3, k2], hA, rfl⟩
    · refine wp_ite (fun q_ => absurd q_ (show ¬ (1 : Int32) = 0 by decide)) (fun _ => ?_)
      refine wp_ite (fun _ => ?_) (fun q_ => absurd (rfl) q_)
      exact wp_s ⟨(hI.2 (by decide)).2.2.1 rfl, hA, rfl⟩
    · refine wp_ite (fun q_ => absurd q_ (show ¬ (2 : Int32) = 0 by decide)) (fun _ => ?_)
      refine wp_ite (fun q_ => absurd q_ (show ¬ (2 : Int32) = 1 by decide)) (fun _ => ?_)
      refine wp_ite (fun _ => ?_) (fun q_ => absurd (rfl) q_)
      exact wp_s ⟨(hI.2 (by decide)).2.2.2.1 rfl, hA, rfl⟩
    · refine wp_ite (fun q_ => absurd q_ (show ¬ (3 : Int32) = 0 by decide)) (fun _ => ?_)
      refine wp_ite (fun q_ => absurd q_ (show ¬ (3 : Int32) = 1 by decide)) (fun _ => ?_)
      refine wp_ite (fun q_ => absurd q_ (show ¬ (3 : Int32) = 2 by decide)) (fun _ => ?_)
      exact wp_s ⟨(hI.2 (by decide)).2.2.2.2 rfl, hA, rfl⟩
  | cons t m1 ih =>
    intro j f q c fl su mi ma σ hA hd hj hf hI
    obtain ⟨f, rfl⟩ : ∃ g, f = g + 1 := ⟨f - 1, by omega⟩
    obtain ⟨d1, d2⟩ := drop_cons hd
    have hjl := (List.getElem?_eq_some_iff.mp d1).1
    have hfl : m1.length + 30 ≤ f := by simp at hf; omega
    have hB := hA.2.2.2.1
    have h20 := hB.2.1
    have hT := hB.2.2 j t d1
    have htm := w1.2 t (List.mem_of_getElem? d1)
    have hl4 := htm.2.2.2.2.1
    show wp (M_fold_b72 n (M_fold_L72 n f) f (i s) (i fi) w c fl su mi ma (i j) σ) _
    unfold M_fold_b72 M_fold_b171 M_fold_b178 M_fold_b193 M_fold_b200 M_fold_b205
    refine wp_ite (fun q_ => absurd q_ (show ¬ σ.1 24 1 0 ≤ i j by rw [hB.1, i_le (by omega) (by omega)]; omega)) (fun _ => ?_)
    rw [List.foldl_cons, show i j + 1 = i (j + 1) from i_add j 1]
    have go : ∀ (q1 : Int64 × Bool) (c1 fl1 : Int32) (su1 mi1 ma1 : Int64) (τ : J), mA n τ (now, lat, ts, line, dl, dr, pt, la, jo, tk, fn, os) → τ.1 24 0 0 = σ.1 24 0 0 → q1 = a_fold1 s (pt s 0) fi w q t → mI w (j + 1) q1 c1 fl1 su1 mi1 ma1 → wp (M_fold_L72 n f (i s) (i fi) w c1 fl1 su1 mi1 ma1 (i (j + 1)) τ) (fun o => o.1 = (m1.foldl (a_fold1 s (pt s 0) fi w) (a_fold1 s (pt s 0) fi w q t)).1 ∧ mA n o.2 (now, lat, ts, line, dl, dr, pt, la, jo, tk, fn, os) ∧ o.2.1 24 0 0 = σ.1 24 0 0) := by
      intro q1 c1 fl1 su1 mi1 ma1 τ h1 h2 h3 h4
      rw [← h3]
      exact wp_mono (ih (j + 1) f q1 c1 fl1 su1 mi1 ma1 τ h1 d2 (by omega) hfl h4) (fun o ho => ⟨ho.1, ho.2.1, ho.2.2.trans h2⟩)
    have same : mI w (j + 1) q c fl su mi ma := ⟨fun e => by obtain ⟨k, k1, k2⟩ := hI.1 e; exact ⟨k, by omega, k2⟩, hI.2⟩
    refine wp_e (M_sees_s hT (by omega) (htm.m w4) w13) ?_
    cases hse : a_sees (i s) t with
    | false =>
      refine wp_ite (fun _ => ?_) (fun q_ => absurd (show b01 false = 0 from rfl) q_)
      refine go q c fl su mi ma σ hA rfl ?_ same
      unfold a_fold1
      rw [hse, if_neg (fun q => by cases q.1)]
    | true =>
      refine wp_ite (fun q_ => absurd q_ (show ¬ b01 true = 0 by decide)) (fun _ => ?_)
      have h13 := hA.2.2.2.2.2.2.2.2.2.2.2.2
      have hbd : mbd σ 0 bd0 := fun v hv => by rw [show 4 * 0 + v = v by omega, h13 v hv, if_pos rfl]; rfl
      have hfit := M_fits_s (n := n) (j := j) (r := 3 * s + 0) (p := 0) (f := f) (gs := pt s 0) (t := t) (ts := ts) (nums := []) (bd := bd0) (σ := σ) (by omega) (by omega) (by decide) (w6 s 0 hs (by decide)) htm.2.2.2.2 rfl (by omega) (hA.2.2.2.2.2.2.2.1 s 0 hs (by decide)) hT (fun j m h => by cases h) hB hbd
      rw [show 3 * i s = i (3 * s + 0) from by rw [l3, i_mul]; rfl]
      refine wp_bind hfit (fun o ho => ?_)
      obtain ⟨o1, τ⟩ := o
      obtain ⟨g1, g2, -⟩ := ho
      replace g1 : o1 = _ := g1
      subst g1
      dsimp only at g2 ⊢
      have hA2 : mA n τ (now, lat, ts, line, dl, dr, pt, la, jo, tk, fn, os) := mA_se hA (g2.1.up (fun k q => by omega) (fun f q => q)) (fun v hv => by rw [(g2.2 v (by omega)).1]; exact h13 v hv)
      have hc2 : τ.1 24 0 0 = σ.1 24 0 0 := g2.1.2 0 (fun q => q)
      cases hft : (a_fits (pt s 0) (t_fs t) [] bd0).isSome with
      | false =>
        refine wp_ite (fun _ => ?_) (fun q_ => absurd (show b01 false = 0 from rfl) q_)
        refine go q c fl su mi ma τ hA2 hc2 ?_ same
        unfold a_fold1
        rw [hft, if_neg (fun q => by cases q.2)]
      | true =>
        refine wp_ite (fun q_ => absurd q_ (show ¬ b01 true = 0 by decide)) (fun _ => ?_)
        have hT2 := hA2.2.2.2.1.2.2 j t d1
        have hF := hT2.2.2.2.2.2.2
        have hF1 : τ.2.1 26 0 j = i (t_fs t).length := hF.1
        refine wp_ite (fun _ => ?_) (fun q_ => absurd (show q_in (i j) 20 = true by rw [i_in (by omega)]; omega) q_)
        have hcount : c + 1 = c + 1 := rfl
        have hnum : w = 0 → ∃ k, k ≤ j + 1 ∧ c + 1 = i k ∧ q.1 + 1 = (i k).toInt64 := fun e => by
          obtain ⟨k, k1, k2, k3⟩ := hI.1 e
          exact ⟨k + 1, by omega, by rw [k2]; exact i_add k 1, by rw [k3]; exact i64_succ k (by omega)⟩
        have hv0 : a_fold1 s (pt s 0) fi w q t = if w = 0 then (q.1 + 1, q.2) else match (t_fs t)[fi]? with
            | some x => if x.1 = i 0 then (if q.2 = true then (if w = 1 then q.1 + x.2 else if w = 2 then (if x.2 < q.1 then x.2 else q.1) else (if x.2 < q.1 then q.1 else x.2)) else x.2, true) else q
            | none => q := by
          unfold a_fold1
          rw [if_pos ⟨hse, hft⟩]
          rfl
        -- nothing to fold here
        have skip : (w ≠ 0 → a_fold1 s (pt s 0) fi w q t = q) → wp (M_fold_L72 n f (i s) (i fi) w (c + 1) fl su mi ma (i (j + 1)) τ) (fun o => o.1 = (m1.foldl (a_fold1 s (pt s 0) fi w) (a_fold1 s (pt s 0) fi w q t)).1 ∧ mA n o.2 (now, lat, ts, line, dl, dr, pt, la, jo, tk, fn, os) ∧ o.2.1 24 0 0 = σ.1 24 0 0) := by
          intro hk
          by_cases hw0 : w = 0
          · exact go (q.1 + 1, q.2) _ _ _ _ _ τ hA2 hc2 (by rw [hv0, if_pos hw0]) ⟨hnum, fun e => absurd hw0 e⟩
          · exact go q _ _ _ _ _ τ hA2 hc2 (hk hw0).symm ⟨fun e => absurd e hw0, hI.2⟩
        by_cases hlen : fi < (t_fs t).length
        · refine wp_ite (fun q_ => absurd q_ (show ¬ τ.2.1 26 0 (i j).toNatClampNeg ≤ i fi by rw [i_n (by omega), hF1, i_le (by omega) (by omega)]; omega)) (fun _ => ?_)
          obtain ⟨x, hx⟩ : ∃ x, (t_fs t)[fi]? = some x := ⟨_, List.getElem?_eq_getElem hlen⟩
          obtain ⟨x1, x2⟩ := hF.2 fi x hx
          have he : 4 * i j + i fi = i (4 * j + fi) := by rw [l4, i_mul, i_add]
          have h80 : q_in (4 * i j + i fi) 80 = true := by rw [he, i_in (by omega)]; omega
          refine wp_ite (fun _ => ?_) (fun q_ => absurd (h80) q_)
          have e32 : τ.2.1 32 0 (4 * i j + i fi).toNatClampNeg = x.1 := by rw [he, i_n (by omega)]; exact x1
          have e33 : τ.2.2.1 33 0 (4 * i j + i fi).toNatClampNeg = x.2 := by rw [he, i_n (by omega)]; exact x2
          by_cases hx0 : x.1 = i 0
          · refine wp_ite (fun _ => ?_) (fun q_ => absurd (show τ.2.1 32 0 (4 * i j + i fi).toNatClampNeg = 0 by rw [e32]; exact hx0) q_)
            refine wp_ite (fun _ => ?_) (fun q_ => absurd (h80) q_)
            rw [e33]
            have hv1 : a_fold1 s (pt s 0) fi w q t = if w = 0 then (q.1 + 1, q.2) else (if q.2 = true then (if w = 1 then q.1 + x.2 else if w = 2 then (if x.2 < q.1 then x.2 else q.1) else (if x.2 < q.1 then q.1 else x.2)) else x.2, true) := by
              rw [hv0, hx]
              dsimp only
              rw [if_pos hx0]
            -- one goes on, whatever the rest
            have fin : ∀ (mi1 ma1 : Int64), (w ≠ 0 → q.2 = false → mi1 = x.2 ∧ ma1 = x.2) → (w ≠ 0 → q.2 = true → mi1 = (if x.2 < mi then x.2 else mi) ∧ ma1 = (if ma < x.2 then x.2 else ma)) → wp (M_fold_L72 n f (i s) (i fi) w (c + 1) 1 (su + x.2) mi1 ma1 (i (j + 1)) τ) (fun o => o.1 = (m1.foldl (a_fold1 s (pt s 0) fi w) (a_fold1 s (pt s 0) fi w q t)).1 ∧ mA n o.2 (now, lat, ts, line, dl, dr, pt, la, jo, tk, fn, os) ∧ o.2.1 24 0 0 = σ.1 24 0 0) := by
              intro mi1 ma1 k1 k2
              by_cases hw0 : w = 0
              · exact go (q.1 + 1, q.2) _ _ _ _ _ τ hA2 hc2 (by rw [hv1, if_pos hw0]) ⟨hnum, fun e => absurd hw0 e⟩
              · obtain ⟨z1, z2, z3, z4, z5⟩ := hI.2 hw0
                rw [if_neg hw0] at hv1
                refine go _ _ _ _ _ _ τ hA2 hc2 hv1.symm ⟨fun e => absurd e hw0, fun _ => ⟨rfl, (fun e => nomatch e), fun e => ?_, fun e => ?_, fun e => ?_⟩⟩
                · cases hq : q.2 with
                  | true => rw [if_pos rfl, if_pos e, z3 e]
                  | false => rw [if_neg (show ¬ false = true by decide), z3 e, z2 hq]; exact Int64.zero_add _
                · cases hq : q.2 with
                  | true => rw [if_pos rfl, if_neg (by rw [e]; decide), if_pos e, (k2 hw0 hq).1, z4 e]
                  | false => rw [if_neg (show ¬ false = true by decide), (k1 hw0 hq).1]
                · cases hq : q.2 with
                  | true =>
                    rw [if_pos rfl, if_neg (by rw [e]; decide), if_neg (by rw [e]; decide), (k2 hw0 hq).2, z5 e]
                    by_cases c1 : q.1 < x.2
                    · rw [if_pos c1, if_neg (lq_as c1).2]
                    · rw [if_neg c1]
                      by_cases c2 : x.2 < q.1
                      · rw [if_pos c2]
                      · rw [if_neg c2]
                        by_cases c3 : x.2 = q.1
                        · exact c3.symm
                        · exact absurd (lq_ne c1 c3) c2
                  | false => rw [if_neg (show ¬ false = true by decide), (k1 hw0 hq).2]
            by_cases hfl0 : fl = 0
            · refine wp_ite (fun _ => ?_) (fun q_ => absurd (hfl0) q_)
              refine wp_ite (fun _ => ?_) (fun q_ => absurd (hfl0) q_)
              refine fin _ _ (fun _ _ => ⟨rfl, rfl⟩) (fun e1 e2 => ?_)
              have := (hI.2 e1).1
              rw [e2, hfl0] at this
              exact absurd this (by decide)
            · refine wp_ite (fun q_ => absurd q_ (hfl0)) (fun _ => ?_)
              have hq2 : w ≠ 0 → q.2 = false → False := fun e1 e2 => by
                have := (hI.2 e1).1
                rw [e2] at this
                exact hfl0 this
              by_cases c1 : x.2 < mi
              · refine wp_ite (fun q_ => absurd q_ (show ¬ 0 ≤ lg_cmp x.2 mi by rw [lq_ge]; exact fun q => q c1)) (fun _ => ?_)
                refine wp_ite (fun q_ => absurd q_ (hfl0)) (fun _ => ?_)
                by_cases c2 : ma < x.2
                · refine wp_ite (fun q_ => absurd q_ (show ¬ lg_cmp x.2 ma ≤ 0 by rw [lq_le]; exact fun q => q c2)) (fun _ => ?_)
                  exact fin _ _ (fun e1 e2 => (hq2 e1 e2).elim) (fun _ _ => ⟨(if_pos c1).symm, (if_pos c2).symm⟩)
                · refine wp_ite (fun _ => ?_) (fun q_ => absurd (show lg_cmp x.2 ma ≤ 0 by rw [lq_le]; exact c2) q_)
                  exact fin _ _ (fun e1 e2 => (hq2 e1 e2).elim) (fun _ _ => ⟨(if_pos c1).symm, (if_neg c2).symm⟩)
              · refine wp_ite (fun _ => ?_) (fun q_ => absurd (show 0 ≤ lg_cmp x.2 mi by rw [lq_ge]; exact c1) q_)
                refine wp_ite (fun q_ => absurd q_ (hfl0)) (fun _ => ?_)
                by_cases c2 : ma < x.2
                · refine wp_ite (fun q_ => absurd q_ (show ¬ lg_cmp x.2 ma ≤ 0 by rw [lq_le]; exact fun q => q c2)) (fun _ => ?_)
                  exact fin _ _ (fun e1 e2 => (hq2 e1 e2).elim) (fun _ _ => ⟨(if_neg c1).symm, (if_pos c2).symm⟩)
                · refine wp_ite (fun _ => ?_) (fun q_ => absurd (show lg_cmp x.2 ma ≤ 0 by rw [lq_le]; exact c2) q_)
                  exact fin _ _ (fun e1 e2 => (hq2 e1 e2).elim) (fun _ _ => ⟨(if_neg c1).symm, (if_neg c2).symm⟩)
          · refine wp_ite (fun q_ => absurd q_ (show ¬ τ.2.1 32 0 (4 * i j + i fi).toNatClampNeg = 0 by rw [e32]; exact hx0)) (fun _ => ?_)
            refine skip (fun hw0 => ?_)
            rw [hv0, if_neg hw0, hx]
            dsimp only
            rw [if_neg hx0]
        · refine wp_ite (fun _ => ?_) (fun q_ => absurd (show τ.2.1 26 0 (i j).toNatClampNeg ≤ i fi by rw [i_n (by omega), hF1, i_le (by omega) (by omega)]; omega) q_)
          refine skip (fun hw0 => ?_)
          rw [hv0, if_neg hw0, List.getElem?_eq_none (by omega)]
theorem M_fold_39 {n f : Nat} {x fi w : Int32} {r : Bool} {now lat : Nat} {ts : List Tp} {line : List Nat} {dl : Nat → Nat} {dr : Nat → List FV} {pt : Nat → Nat → List Fm} {la : Nat → Int32} {jo : Nat → Nat} {tk : Nat → Bool} {fn : Nat → Fq} {os : List Od} {σ : J} (hA : mA n σ (now, lat, ts, line, dl, dr, pt, la, jo, tk, fn, os)) (hw : wfA n (now, lat, ts, line, dl, dr, pt, la, jo, tk, fn, os)) (hf : 60 ≤ f) (hr : ∀ s, a_first n line x = .inl s → r = decide (pt s 0 ≠ [] ∧ 0 ≤ fi ∧ fi < 4 ∧ 0 ≤ w ∧ w ≤ 3)) : wp (M_fold_b39 n f x fi w x (b01 r) σ) (fun q => mR id (o_fold n x fi w (now, lat, ts, line, dl, dr, pt, la, jo, tk, fn, os)).1 q ∧ mA n q.2 (o_fold n x fi w (now, lat, ts, line, dl, dr, pt, la, jo, tk, fn, os)).2) := by
  have hw' := hw
  obtain ⟨w1, w2, w3, w4, w5, w6, w7, w8, w9, w10, w11, w12, w13⟩ := hw'
  unfold M_fold_b39 o_fold
  simp only [bs_eq]
  refine wp_e (M_first_a hA hw (by omega)) ?_
  cases hfi : a_first n line x with
  | inr e =>
    have he := e12 (first_e hfi)
    refine wp_ite (fun q_ => absurd q_ (show ¬ i e ≤ 0 from i_nle0 he)) (fun _ => ?_)
    exact wp_s ⟨rfl, mA_code hA⟩
  | inl s =>
    obtain ⟨hs, hxs, -⟩ := first_i w13 hfi
    dsimp only
    rw [hr s hfi]
    by_cases h2 : pt s 0 ≠ [] ∧ 0 ≤ fi ∧ fi < 4 ∧ 0 ≤ w ∧ w ≤ 3
    · rw [decide_eq_true h2, if_pos h2]
      obtain ⟨k, hk, e1, e2⟩ := w_i h2.2.1
      obtain ⟨v, hv, e3, e4⟩ := w_i h2.2.2.2.1
      have hk4 : k < 4 := by have := h2.2.2.1; rw [e1, l4, i_lt hk (by decide)] at this; exact this
      have hv4 : v ≤ 3 := by have := h2.2.2.2.2; rw [e3, l3, i_le hv (by decide)] at this; exact this
      have hw4 : w = 0 ∨ w = 1 ∨ w = 2 ∨ w = 3 := by
        have : v = 0 ∨ v = 1 ∨ v = 2 ∨ v = 3 := by omega
        rcases this with q | q | q | q <;> rw [e3, q]
        · exact Or.inl rfl
        · exact Or.inr (Or.inl rfl)
        · exact Or.inr (Or.inr (Or.inl rfl))
        · exact Or.inr (Or.inr (Or.inr rfl))
      refine wp_ite (fun _ => ?_) (fun q_ => absurd (show i 0 ≤ 0 by decide) q_)
      rw [hxs, e2]
      have hA2 := mA_code (v := i 0) hA
      have h20 := hA.2.2.2.1.2.1
      rw [e1]
      exact wp_mono (M_fold_L hw hs hk4 hw4 ts 0 f (0, false) 0 0 0 0 0 _ hA2 rfl (Nat.zero_le _) (by omega) ⟨fun _ => ⟨0, Nat.le_refl _, rfl, rfl⟩, fun _ => ⟨rfl, fun _ => rfl, fun _ => rfl, fun _ => rfl, fun _ => rfl⟩⟩) (fun o ho => ⟨⟨ho.1, ho.2.2⟩, ho.2.1⟩)
    · rw [decide_eq_false h2, if_neg h2]
      refine wp_ite (fun q_ => absurd q_ (show ¬ i 3 ≤ 0 by decide)) (fun _ => ?_)
      exact wp_s ⟨rfl, mA_code hA⟩
theorem M_fold_s {n f : Nat} {x fi w : Int32} {a : Sq} {σ : J} (hA : mA n σ a) (hw : wfA n a) (hf : 60 ≤ f) : wp (M_fold n f x fi w σ) (fun q => mR id (o_fold n x fi w a).1 q ∧ mA n q.2 (o_fold n x fi w a).2) := by
  obtain ⟨now, lat, ts, line, dl, dr, pt, la, jo, tk, fn, os⟩ := a
  unfold M_fold M_fold_b0 M_fold_b38
  refine wp_e (M_ready_s hA hw (by omega)) ?_
  rw [hasP_1, isE]
  have hp4 : (fi ≤ i 3) = (fi < 4) := propext (by rw [Int32.le_iff_toInt_le, Int32.lt_iff_toInt_lt, i_t (by decide)]; have : (4 : Int32).toInt = 4 := rfl; omega)
  cases h1 : (a_sess n x && decide (pt x.toNatClampNeg 0 ≠ [])) with
  | false =>
    refine wp_ite (fun _ => ?_) (fun q_ => absurd (show b01 false = 0 from rfl) q_)
    refine M_fold_39 (r := false) hA hw hf (fun s q => (decide_eq_false (fun q1 => ?_)).symm)
    rw [first_se q, ← first_s rfl s q, decide_eq_true q1.1] at h1
    cases h1
  | true =>
    refine wp_ite (fun q_ => absurd q_ (show ¬ b01 true = 0 by decide)) (fun _ => ?_)
    refine wp_e (M_within_s.trans (congrArg (fun b => some (b01 b, σ)) (within_i (m := 3) (by decide)))) ?_
    rw [b2]
    by_cases h2 : 0 ≤ fi ∧ fi ≤ i 3
    · rw [decide_eq_true h2]
      refine wp_ite (fun q_ => absurd q_ (show ¬ b01 true = 0 by decide)) (fun _ => ?_)
      refine wp_e (M_within_s.trans (congrArg (fun b => some (b01 b, σ)) (within_i (m := 3) (by decide)))) ?_
      rw [b2]
      by_cases h3 : 0 ≤ w ∧ w ≤ i 3
      · rw [decide_eq_true h3]
        refine wp_ite (fun q_ => absurd q_ (show ¬ b01 true = 0 by decide)) (fun _ => ?_)
        refine M_fold_39 (r := true) hA hw hf (fun s q => (decide_eq_true ⟨?_, h2.1, hp4 ▸ h2.2, h3.1, h3.2⟩).symm)
        rw [first_se q, ← first_s rfl s q, Bool.true_and] at h1
        exact of_decide_eq_true h1
      · rw [decide_eq_false h3]
        refine wp_ite (fun _ => ?_) (fun q_ => absurd (show b01 false = 0 from rfl) q_)
        exact M_fold_39 (r := false) hA hw hf (fun s q => (decide_eq_false (fun q1 => h3 ⟨q1.2.2.2.1, q1.2.2.2.2⟩)).symm)
    · rw [decide_eq_false h2]
      refine wp_ite (fun _ => ?_) (fun q_ => absurd (show b01 false = 0 from rfl) q_)
      exact M_fold_39 (r := false) hA hw hf (fun s q => (decide_eq_false (fun q1 => h2 ⟨q1.2.1, hp4 ▸ q1.2.2.1⟩)).symm)
theorem mA_undo {n s d : Nat} {now lat : Nat} {ts : List Tp} {line : List Nat} {dl : Nat → Nat} {dr : Nat → List FV} {pt : Nat → Nat → List Fm} {la : Nat → Int32} {jo : Nat → Nat} {tk : Nat → Bool} {fn : Nat → Fq} {os : List Od} {ts1 : List Tp} {σ τ : J} (h : mA n σ (now, lat, ts, line, dl, dr, pt, la, jo, tk, fn, os)) (hf : mf (fun k => Kr k ∨ k = 34) F1 σ τ) (hB : mB τ ts1) (h34 : ∀ y, τ.2.1 34 0 y = if y = s then i d else σ.2.1 34 0 y) : mA n τ (now, lat, ts1, line, va_up dl s d, dr, pt, la, jo, tk, fn, os) := by
  obtain ⟨h1, h2, h3, h4, h5, h6, h7, h8, h9, h10, h11, h12, h13⟩ := h
  exact ⟨by rw [hf.2 13 (by unfold F1; omega)]; exact h1, by rw [hf.2 3 (by unfold F1; omega)]; exact h2, by rw [hf.2 2 (by unfold F1; omega)]; exact h3, hB, h5.fr hf (by unfold Kr; omega) (by unfold F1; omega), fun q hq => by
    rw [h34 q]
    unfold va_up
    by_cases e : q = s
    · rw [if_pos e, if_pos e]
    · rw [if_neg e, if_neg e]; exact h6 q hq, fun q hq => by rw [(hf.1 35 (by unfold Kr; omega)).1, (hf.1 36 (by unfold Kr; omega)).1, (hf.1 37 (by unfold Kr; omega)).2]; exact h7 q hq, fun q p hq hp => (h8 q p hq hp).fr hf (fun k _ _ => (by unfold Kr; omega)), fun q hq => by rw [(hf.1 45 (by unfold Kr; omega)).1]; exact h9 q hq, fun q hq => by rw [(hf.1 43 (by unfold Kr; omega)).1, (hf.1 44 (by unfold Kr; omega)).1]; exact h10 q hq, fun q hq => (h11 q hq).fr hf (by unfold Kr; omega) (by unfold Kr; omega) (by unfold Kr; omega), h12.fr hf (fun k _ _ => by unfold Kr; omega) (by unfold Kr; omega) (by unfold Kr; omega) (by unfold Kr; omega) (by unfold F1; omega), fun v hv => by rw [(hf.1 52 (by unfold Kr; omega)).1]; exact h13 v hv⟩
theorem M_drop_s {n s f : Nat} {now lat : Nat} {ts : List Tp} {line : List Nat} {dl : Nat → Nat} {dr : Nat → List FV} {pt : Nat → Nat → List Fm} {la : Nat → Int32} {jo : Nat → Nat} {tk : Nat → Bool} {fn : Nat → Fq} {os : List Od} {σ : J} (hA : mA n σ (now, lat, ts, line, dl, dr, pt, la, jo, tk, fn, os)) (hw : wfA n (now, lat, ts, line, dl, dr, pt, la, jo, tk, fn, os)) (hs : s < n) (hd : 1 ≤ dl s) (hf : 100 ≤ f) : wp (M_drop n f (i s) σ) (fun q => q.1 = i (a_inDeal s (dl s) ts + if a_freed s (dl s) ts = true then 100 else 0) ∧ mA n q.2 (now, lat, a_undo s (dl s) ts, line, va_up dl s (dl s - 1), dr, pt, la, jo, tk, fn, os) ∧ q.2.1 24 0 0 = σ.1 24 0 0) := by
  obtain ⟨w1, w2, w3, w4, w5, w6, w7, w8, w9, w10, w11, w12, w13⟩ := hw
  have h20 := hA.2.2.2.1.2.1
  unfold M_drop M_drop_b0
  refine wp_mono (M_drop_L (n := n) (s := s) (d := dl s) (by omega) ⟨hd, w4 s hs⟩ ts [] f 0 false σ hA.2.2.2.1 (fun t ht => (w1.2 t ht).2.2.2.2.1) (hA.2.2.2.2.2.1 s hs) (by omega)) (fun q hq => ⟨?_, mA_undo hA hq.2.1 hq.2.2.1 hq.2.2.2, hq.2.1.2 0 (by unfold F1; omega)⟩)
  rw [hq.1, Nat.zero_add, Bool.false_or]
theorem m100 : ∀ c, c ≤ 20 → ∀ b : Bool, i (c + if b = true then 100 else 0) - i (c + if b = true then 100 else 0) / 100 * 100 = i c ∧ (i (c + if b = true then 100 else 0) < 100 ↔ b = false) := by decide +kernel
theorem inDeal_le {s d : Nat} {ts : List Tp} (h : ts.length ≤ 20) : a_inDeal s d ts ≤ 20 := Nat.le_trans List.countP_le_length h
theorem wfA_undo {n s : Nat} {now lat : Nat} {ts : List Tp} {line : List Nat} {dl : Nat → Nat} {dr : Nat → List FV} {pt : Nat → Nat → List Fm} {la : Nat → Int32} {jo : Nat → Nat} {tk : Nat → Bool} {fn : Nat → Fq} {os : List Od} (hw : wfA n (now, lat, ts, line, dl, dr, pt, la, jo, tk, fn, os)) (hs : s < n) (hd : 1 ≤ dl s) : wfA n (now, lat, a_undo s (dl s) ts, line, va_up dl s (dl s - 1), dr, pt, la, jo, tk, fn, os) := by
  obtain ⟨w1, w2, w3, w4, w5, w6, w7, w8, w9, w10, w11, w12, w13⟩ := hw
  have hd4 := w4 s hs
  refine ⟨okTs_dl (okTs_undo w1) w13 w4 (by omega) ?_, w2, w3, fun q hq => ?_, w5, w6, w7, w8, w9, w10, w11, w12, w13⟩
  · have := w1.tk w13 (show s < 4 by omega)
    rw [show dl s = dl s - 1 + 1 by omega] at this
    have h2 := tkLe_undo this
    rw [show dl s - 1 + 1 = dl s by omega] at h2
    exact h2
  · unfold va_up
    by_cases e : q = s
    · rw [if_pos e]; omega
    · rw [if_neg e]; exact w4 q hq
theorem M_abandon_s {n f : Nat} {x : Int32} {a : Sq} {σ : J} (hA : mA n σ a) (hw : wfA n a) (hf : 18500 ≤ f) : wp (M_abandon n f x σ) (fun q => mR id (o_abandon n x a).1 q ∧ mA n q.2 (o_abandon n x a).2) := by
  obtain ⟨now, lat, ts, line, dl, dr, pt, la, jo, tk, fn, os⟩ := a
  have hw' := hw
  obtain ⟨w1, w2, w3, w4, w5, w6, w7, w8, w9, w10, w11, w12, w13⟩ := hw'
  unfold M_abandon M_abandon_b0 M_abandon_b26 M_abandon_b38 M_abandon_b55
  unfold o_abandon
  simp only [bs_eq]
  refine wp_e (M_first_a (r := true) hA hw (by omega)) ?_
  cases hfi : a_first n line x with
  | inr e =>
    have he := e12 (first_e hfi)
    refine wp_ite (fun _ => ?_) (fun q_ => absurd (show 0 < i e from lt_of_nle (i_nle0 he)) q_)
    refine wp_ite (fun q_ => absurd q_ (show ¬ i e ≤ 0 from i_nle0 he)) (fun _ => ?_)
    exact wp_s ⟨rfl, mA_code hA⟩
  | inl s =>
    obtain ⟨hs, hxs, -⟩ := first_i w13 hfi
    have hxn : x.toNatClampNeg = s := by rw [hxs, i_n (by omega)]
    have his : q_in x 4 = true := by rw [hxs, i_in (by omega)]; omega
    have hA2 := mA_code (v := i 0) hA
    have hd4 := w4 s hs
    dsimp only
    refine wp_ite (fun q_ => absurd q_ (show ¬ 0 < i 0 by decide)) (fun _ => ?_)
    refine wp_ite (fun _ => ?_) (fun q_ => absurd (his) q_)
    have h34 : σ.2.1 34 0 x.toNatClampNeg = i (dl s) := by rw [hxn]; exact hA.2.2.2.2.2.1 s hs
    by_cases hd : dl s = 0
    · rw [if_pos hd]
      refine wp_ite (fun _ => ?_) (fun q_ => absurd (show σ.2.1 34 0 x.toNatClampNeg = 0 by rw [h34, hd]; rfl) q_)
      refine wp_ite (fun _ => ?_) (fun q_ => absurd (show i 0 ≤ 0 by decide) q_)
      exact wp_s ⟨⟨rfl, rfl⟩, hA2⟩
    · rw [if_neg hd]
      refine wp_ite (fun q_ => absurd q_ (show ¬ σ.2.1 34 0 x.toNatClampNeg = 0 by rw [h34, l0, i_eq (by omega) (by decide)]; exact hd)) (fun _ => ?_)
      rw [hxs]
      refine wp_bind (M_drop_s hA2 hw hs (by omega) (by omega)) (fun q hq => ?_)
      obtain ⟨q1, q2⟩ := q
      obtain ⟨g1, g2, g3⟩ := hq
      replace g1 : q1 = _ := g1
      subst g1
      dsimp only at g2 g3 ⊢
      obtain ⟨m1, m2⟩ := m100 _ (inDeal_le (s := s) (d := dl s) hA.2.2.2.1.2.1) (a_freed s (dl s) ts)
      cases hfr : a_freed s (dl s) ts with
      | false =>
        rw [hfr] at m1 m2
        refine wp_ite (fun _ => ?_) (fun q_ => absurd (m2.mpr rfl) q_)
        refine wp_ite (fun q_ => absurd q_ (show ¬ (100 : Nat) = 0 by decide)) (fun _ => ?_)
        rw [m1, if_neg (show ¬ false = true by decide)]
        exact wp_s ⟨⟨rfl, g3⟩, g2⟩
      | true =>
        rw [hfr] at m1 m2
        refine wp_ite (fun q_ => absurd q_ (fun q => absurd (m2.mp q) (by decide))) (fun _ => ?_)
        refine wp_bind (M_serve_s g2 (wfA_undo hw hs (by omega)) (by omega)) (fun τ hτ => ?_)
        refine wp_ite (fun q_ => absurd q_ (show ¬ (100 : Nat) = 0 by decide)) (fun _ => ?_)
        rw [m1, if_pos rfl]
        exact wp_s ⟨⟨rfl, hτ.2.trans g3⟩, hτ.1⟩
