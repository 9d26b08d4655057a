/-! The class's sessions and its search. Ours. -/
def cSt (n : Nat) (σ : J) : Prop := (∀ s, s < n → σ.2.2.2 1 0 s = s) ∧ (∀ s, s < n → σ.1 16 0 s = i s) ∧ (∀ s p, s < n → p < 3 → σ.2.2.2 17 s p = 6 + 3 * s + p) ∧ ∀ o, o < 6 → σ.2.2.2 20 0 o = o
theorem cSt.fr {Z : Nat → Nat → Prop} {n : Nat} {σ τ : J} (h : cSt n σ) (hf : fr Z σ τ) (h1 : ¬ Z 1 0) (h2 : ∀ s, s < n → ¬ Z 16 s ∨ τ.1 16 0 s = σ.1 16 0 s) (h3 : ∀ s, s < n → ¬ Z 17 s) (h4 : ¬ Z 20 0) : cSt n τ := by
  refine ⟨fun s hs => ?_, fun s hs => ?_, fun s p hs hp => ?_, fun o ho => ?_⟩
  · rw [(hf 1 0 h1).2.2.2]; exact h.1 s hs
  · rcases h2 s hs with q | q
    · rw [(hf 16 s q).1]; exact h.2.1 s hs
    · rw [q]; exact h.2.1 s hs
  · rw [(hf 17 s (h3 s hs)).2.2.2]; exact h.2.2.1 s p hs hp
  · rw [(hf 20 0 h4).2.2.2]; exact h.2.2.2 o ho
def cPs (n : Nat) (σ : J) (pt : Nat → Nat → List Fm) : Prop := ∀ s p, s < n → p < 3 → cG σ (6 + 3 * s + p) (pt s p)
theorem cPs.fr {Z : Nat → Nat → Prop} {n : Nat} {σ τ : J} {pt : Nat → Nat → List Fm} (h : cPs n σ pt) (hf : fr Z σ τ) (h1 : ∀ a z, 8 ≤ a → a ≤ 11 → 6 ≤ z → ¬ Z a z) : cPs n τ pt := fun s p hs hp => (h s p hs hp).fr hf (h1 8 _ (by decide) (by decide) (by omega)) (h1 9 _ (by decide) (by decide) (by omega)) (h1 10 _ (by decide) (by decide) (by omega)) (h1 11 _ (by decide) (by decide) (by omega))
/-- the trial's cells -/
def Zt : Nat → Nat → Prop := fun a b => 12 ≤ a ∧ a ≤ 15 ∧ b = 0
theorem cN_back {σ τ : J} {nums : List Int32} {bd : Bd} (h : cN σ 0 (nums, bd)) (hk : kpN σ τ 0 bd) : cN (q_sI τ 12 1 0 (σ.1 12 1 0)) 0 (nums, bd) ∧ kpN σ (q_sI τ 12 1 0 (σ.1 12 1 0)) 0 bd := by
  obtain ⟨h1, m, hm, h2, h3⟩ := h
  refine ⟨⟨fun j hj => ?_, m, hm, ?_, fun v hv => ?_⟩, hk⟩
  · show τ.2.1 13 0 j = _
    rw [hk.1]
    exact h1 j hj
  · rw [sI1, if_pos ⟨rfl, rfl, rfl⟩]
    exact h2
  · show bd v = if m.testBit v = true then some (τ.2.1 14 0 v, τ.2.2.1 15 0 v) else none
    have e := h3 v hv
    replace e : bd v = if m.testBit v = true then some (σ.2.1 14 0 v, σ.2.2.1 15 0 v) else none := e
    cases hb : m.testBit v with
    | false =>
      rw [hb] at e
      exact e
    | true =>
      rw [hb] at e
      obtain ⟨k1, k2⟩ := hk.2 v hv (by rw [e]; rfl)
      rw [k1, k2]
      exact e
theorem cN_num {σ : J} {nums : List Int32} {bd : Bd} {N : Int32} (h : cN σ 0 (nums, bd)) : cN (q_sA σ 13 0 (upd (σ.2.1 13 0) nums.length N)) 0 (nums ++ [N], bd) := by
  obtain ⟨h1, m, hm, h2, h3⟩ := h
  refine ⟨fun j hj => ?_, m, hm, h2, ?_⟩
  · rw [sA2, if_pos ⟨rfl, rfl⟩]
    unfold upd
    show _ = (nums ++ [N]).getD j im
    rw [List.getD_eq_getElem?_getD]
    by_cases e : j = nums.length
    · subst e
      rw [if_pos rfl, List.getElem?_append_right (Nat.le_refl _), Nat.sub_self]
      rfl
    · rw [if_neg e, h1 j hj]
      show nums.getD j im = _
      rw [List.getD_eq_getElem?_getD]
      by_cases e2 : j < nums.length
      · rw [List.getElem?_append_left e2]
      · rw [List.getElem?_append_right (by omega), List.getElem?_eq_none (by omega), List.getElem?_eq_none (by show 1 ≤ j - nums.length; omega)]
  · intro v hv
    exact h3 v hv
theorem a_fits_le {nums : List Int32} : ∀ {gs : List Fm} {xs : List FV} {bd bd1 : Bd}, a_fits gs xs nums bd = some bd1 → bdle bd bd1 := by
  intro gs
  induction gs with
  | nil =>
    intro xs bd bd1 h
    cases xs with
    | nil => cases h; exact fun _ h => h
    | cons _ _ => cases h
  | cons g gs ih =>
    intro xs bd bd1 h
    cases xs with
    | nil => cases h
    | cons x xs =>
      replace h : (a_holds g x nums bd).bind (fun bd1 => a_fits gs xs nums bd1) = some bd1 := h
      obtain ⟨b, h1, h2⟩ := Option.bind_eq_some_iff.mp h
      exact fun v hv => ih h2 v (a_holds_le h1 v hv)
def dQ (σ : J) (nums : List Int32) (bd : Bd) (o : Option Fq) (q : Int32 × J) : Prop := q.1 = b01 o.isSome ∧ fr Zt σ q.2 ∧ match o with
  | some r => cN q.2 0 r
  | none => cN q.2 0 (nums, bd) ∧ kpN σ q.2 0 bd
def okN (nums : List Int32) : Prop := ∀ m ∈ nums, ∃ k, 1 ≤ k ∧ k < 2147483648 ∧ m = i k
def okS (ts : List Tp) : Prop := ∀ t ∈ ts, (t_fs t).length ≤ 4 ∧ ∃ k, 1 ≤ k ∧ k < 2147483648 ∧ t_num t = i k
theorem i_pos {k : Nat} (h1 : 1 ≤ k) (h : k < 2147483648) : i k ≠ im := fun q => by
  rw [i_m h] at q
  exact q
theorem JB_extend_L {n s p joined k g f0 : Nat} {ts : List Tp} {pt : Nat → List Fm} (hs : s < n) (hp : p < 3) (hok : ∀ p, p < 3 → okGs (pt p)) (hts : okS ts)
    (self : ∀ (nums : List Int32) (bd : Bd) (σ : J), nums.length = p + 1 → okN nums → cSt n σ → cB σ ts → (∀ p, p < 3 → cG σ (6 + 3 * s + p) (pt p)) → cN σ 0 (nums, bd) → wp (JB_extend_g n f0 g s (i joined) (i (p + 1)) σ) (dQ σ nums bd (a_dfs (i s) ts pt k (p + 1) nums bd)))
    (nums : List Int32) (hnl : nums.length = p) (hnp : okN nums) (bd : Bd) {u : Nat} (hu : u ≤ 20) :
    ∀ (m j f : Nat) (ts1 : List Tp) (σ : J), cSt n σ → cB σ ts → (∀ p, p < 3 → cG σ (6 + 3 * s + p) (pt p)) → cN σ 0 (nums, bd) → okP (σ.2.2.2 3 0) → σ.1 2 1 0 = i u → Rw (σ.2.2.2 3 0) σ j m ts1 → (∀ t ∈ ts1, t ∈ ts) → j + m = u → m + 20 ≤ f → wp (JB_extend_L10 n (JB_extend_g n f0 g) f s (i joined) (i p) (i j) σ) (dQ σ nums bd (ts1.findSome? fun t => if a_sees (i s) t = true ∧ t_num t ∉ nums then (a_fits (pt p) (t_fs t) nums bd).bind fun bd1 => a_dfs (i s) ts pt k (p + 1) (nums ++ [t_num t]) bd1 else none)) := by
  intro m
  induction m with
  | zero =>
    intro j f ts1 σ hst hB hG hN hP hu1 h hsub hj hf
    obtain ⟨f, rfl⟩ : ∃ g, f = g + 1 := ⟨f - 1, by omega⟩
    rw [show ts1 = [] from h]
    unfold JB_extend_L10 JB_extend_b10
    rw [hu1, if_pos (by rw [i_le (by omega) (by omega)]; omega)]
    simp only [and1_0, if_true, wp_some]
    exact ⟨rfl, fr.rf, hN, kpN.rf⟩
  | succ m ih =>
    intro j f ts1 σ hst hB hG hN hP hu1 h hsub hj hf
    obtain ⟨f, rfl⟩ : ∃ g, f = g + 1 := ⟨f - 1, by omega⟩
    have hPj : Nat.blt (σ.2.2.2 3 0 j) 20 = true := by rw [blt_eq]; exact hP.1 j (by omega)
    have hin : q_in (i j) 20 = true := by rw [i_in (by omega)]; omega
    have hip : q_in (i p) 3 = true := by rw [i_in (by omega)]; omega
    -- going on with the next row, from a state that is as it was
    have go : ∀ (τ : J) (ts2 : List Tp), fr Zt σ τ → cN τ 0 (nums, bd) → kpN σ τ 0 bd → Rw (σ.2.2.2 3 0) σ (j + 1) m ts2 → (∀ t ∈ ts2, t ∈ ts) → wp (JB_extend_L10 n (JB_extend_g n f0 g) f s (i joined) (i p) (i (j + 1)) τ) (dQ σ nums bd (ts2.findSome? fun t => if a_sees (i s) t = true ∧ t_num t ∉ nums then (a_fits (pt p) (t_fs t) nums bd).bind fun bd1 => a_dfs (i s) ts pt k (p + 1) (nums ++ [t_num t]) bd1 else none)) := by
      intro τ ts2 hf1 hN1 hk1 hR hsub2
      have e3 : τ.2.2.2 3 0 = σ.2.2.2 3 0 := hf1.P3 (by unfold Zt; omega)
      refine wp_mono (ih (j + 1) f ts2 τ (hst.fr hf1 (by unfold Zt; omega) (fun s _ => Or.inl (by unfold Zt; omega)) (fun s _ => by unfold Zt; omega) (by unfold Zt; omega)) (hB.fr hf1 (by unfold Zt; omega) (by unfold Zt; omega) (fun z _ => by unfold Zt; omega)) (fun q hq => (hG q hq).fr hf1 (by unfold Zt; omega) (by unfold Zt; omega) (by unfold Zt; omega) (by unfold Zt; omega)) hN1 (by rw [e3]; exact hP) (by rw [(hf1 2 0 (by unfold Zt; omega)).1]; exact hu1) (by rw [e3]; exact hR.fr hf1 (fun r _ _ => by unfold Zt; omega)) hsub2 (by omega) (by omega)) (fun q hq => ?_)
      obtain ⟨q1, q2, q3⟩ := hq
      refine ⟨q1, hf1.tr q2, ?_⟩
      cases ho : (ts2.findSome? fun t => if a_sees (i s) t = true ∧ t_num t ∉ nums then (a_fits (pt p) (t_fs t) nums bd).bind fun bd1 => a_dfs (i s) ts pt k (p + 1) (nums ++ [t_num t]) bd1 else none) with
      | some r => rw [ho] at q3; exact q3
      | none => rw [ho] at q3; exact ⟨q3.1, hk1.tr q3.2 (fun _ h => h)⟩
    unfold JB_extend_L10 JB_extend_b10 JB_extend_b132 JB_extend_b141
    rw [hu1, if_neg (by rw [i_le (by omega) (by omega)]; omega), if_pos hin, i_n (by omega), if_pos hPj, hst.2.1 s hs]
    simp only [bs_eq, l1, i_add]
    rcases h with ⟨h1, h2⟩ | ⟨t, ts2, rfl, h2, h3⟩
    · rw [off_sees h1, some_bind, if_pos (show b01 false = 0 from rfl)]
      exact go σ ts1 fr.rf hN kpN.rf h2 hsub
    · have htm : t ∈ ts := hsub t List.mem_cons_self
      have hsub2 : ∀ t ∈ ts2, t ∈ ts := fun q hq => hsub q (List.mem_cons_of_mem _ hq)
      obtain ⟨hfl, kn, hk1, hk2, hkn⟩ := hts t htm
      rw [h2.sees, some_bind, List.findSome?_cons]
      dsimp only
      by_cases hse : a_sees (i s) t = true
      · rw [if_neg (by rw [b01_0, hse]; decide), h2.2.1, Finding_hasNumber_s (by omega) hN (by show nums.length ≤ 3; omega) (by rw [hkn]; exact i_pos hk1 hk2), some_bind]
        dsimp only
        by_cases hin2 : t_num t ∈ nums
        · rw [if_neg (by rw [b01_0, decide_eq_true hin2]; decide), if_neg (fun q : a_sees (i s) t = true ∧ t_num t ∉ nums => q.2 hin2)]
          exact go σ ts2 fr.rf hN kpN.rf h3 hsub2
        · rw [if_pos (by rw [b01_0]; exact decide_eq_false hin2), if_pos (show a_sees (i s) t = true ∧ t_num t ∉ nums from ⟨hse, hin2⟩), if_pos hip, i_n (by omega), hst.2.2.1 s p hs hp, if_pos (by rw [blt_eq]; omega)]
          refine wp_bind (Pattern_fits_s (n := n) (f := f) (hok p hp) hfl hnp (by omega) (by omega) (hG p hp) h2.2.2.2.2.2.2.2 hN) (fun q hq => ?_)
          obtain ⟨q1, q2⟩ := q
          obtain ⟨p1, p2, p3, p4⟩ := hq
          replace p3 : q1 = _ := p3
          subst p3
          dsimp only at p1 p2 p4 ⊢
          have hbnd : q2.1 4 1 (σ.2.2.2 3 0 j) = t_num t := by rw [(p2 4 _ (by omega)).1]; exact h2.2.1
          cases hfit : a_fits (pt p) (t_fs t) nums bd with
          | none =>
            rw [if_pos (show b01 (none : Option Bd).isSome = 0 from rfl)]
            obtain ⟨b1, b2⟩ := cN_back hN p1
            exact go _ ts2 ((show fr Zt σ q2 from p2).sI ⟨by decide, by decide, rfl⟩) b1 b2 h3 hsub2
          | some bd1 =>
            rw [if_neg (show ¬ b01 (some bd1).isSome = 0 from (by decide : ¬ b01 true = 0)), if_pos hip, hbnd]
            have hN1 := p4 bd1 hfit
            have hNn := cN_num (N := t_num t) hN1
            rw [hnl] at hNn
            have hfA : fr Zt σ (q_sA q2 13 0 (upd (q2.2.1 13 0) p (t_num t))) := (show fr Zt σ q2 from p2).sA ⟨by decide, by decide, rfl⟩
            generalize hσ4 : q_sA q2 13 0 (upd (q2.2.1 13 0) p (t_num t)) = σ4 at hNn hfA ⊢
            refine wp_bind (self (nums ++ [t_num t]) bd1 σ4 (by rw [List.length_append, hnl]; rfl) (fun m hm => by
              rcases List.mem_append.mp hm with hm | hm
              · exact hnp m hm
              · rw [List.mem_singleton.mp hm]; exact ⟨kn, hk1, hk2, hkn⟩) (hst.fr hfA (by unfold Zt; omega) (fun s _ => Or.inl (by unfold Zt; omega)) (fun s _ => by unfold Zt; omega) (by unfold Zt; omega)) (hB.fr hfA (by unfold Zt; omega) (by unfold Zt; omega) (fun z _ => by unfold Zt; omega)) (fun q hq => (hG q hq).fr hfA (by unfold Zt; omega) (by unfold Zt; omega) (by unfold Zt; omega) (by unfold Zt; omega)) hNn) (fun r hr => ?_)
            obtain ⟨r1, r2⟩ := r
            obtain ⟨d1, d2, d3⟩ := hr
            replace d1 : r1 = _ := d1
            subst d1
            dsimp only at d2 d3 ⊢
            rw [some_bind]
            cases hdf : a_dfs (i s) ts pt k (p + 1) (nums ++ [t_num t]) bd1 with
            | some ans =>
              rw [hdf] at d3
              rw [if_neg (show ¬ b01 (some ans).isSome = 0 from (by decide : ¬ b01 true = 0))]
              simp only [show (i 1 &&& i 1 = i 1) = True from propext ⟨fun _ => trivial, fun _ => rfl⟩, if_true, wp_some]
              exact ⟨rfl, hfA.tr d2, d3⟩
            | none =>
              rw [hdf] at d3
              rw [if_pos (show b01 (none : Option Fq).isSome = 0 from rfl), if_pos hip]
              have e13 : r2.2.1 13 0 = upd (σ.2.1 13 0) p (t_num t) := by
                rw [d3.2.1, ← hσ4, sA2, if_pos ⟨rfl, rfl⟩, p1.1]
              have hkp : kpN σ (q_sA r2 13 0 (upd (r2.2.1 13 0) p (-1))) 0 bd := by
                refine ⟨?_, fun v hv hsv => ?_⟩
                · rw [sA2, if_pos ⟨rfl, rfl⟩, e13]
                  funext y
                  unfold upd
                  by_cases hy : y = p
                  · rw [if_pos hy, hy, hN.1 p hp]
                    show im = nums.getD p im
                    rw [List.getD_eq_getElem?_getD, List.getElem?_eq_none (by omega)]
                    rfl
                  · rw [if_neg hy, if_neg hy]
                · have hle : (bd1 v).isSome = true := a_fits_le hfit v hsv
                  obtain ⟨x1, x2⟩ := d3.2.2 v hv hle
                  obtain ⟨y1, y2⟩ := p1.2 v hv hsv
                  rw [sA2, if_neg (by omega), sA3, x1, x2, ← hσ4, sA2, if_neg (by omega), sA3]
                  exact ⟨y1, y2⟩
              obtain ⟨b1, b2⟩ := cN_back hN hkp
              exact go _ ts2 (((hfA.tr d2).sA ⟨by decide, by decide, rfl⟩).sI ⟨by decide, by decide, rfl⟩) b1 b2 h3 hsub2
      · rw [if_pos (by rw [b01_0]; simpa using hse), if_neg (fun q : a_sees (i s) t = true ∧ t_num t ∉ nums => hse q.1)]
        exact go σ ts2 fr.rf hN kpN.rf h3 hsub2

theorem JB_extend_s {n s joined f0 : Nat} {ts : List Tp} {pt : Nat → List Fm} (hs : s < n) (hok : ∀ p, p < 3 → okGs (pt p)) (hts : okS ts) (hf : 60 ≤ f0) (hj3 : joined ≤ 3) :
    ∀ (k p g : Nat) (nums : List Int32) (bd : Bd) (σ : J), p + k = joined → k < g → nums.length = p → okN nums → cSt n σ → cB σ ts → (∀ p, p < 3 → cG σ (6 + 3 * s + p) (pt p)) → cN σ 0 (nums, bd) → wp (JB_extend_g n f0 g s (i joined) (i p) σ) (dQ σ nums bd (a_dfs (i s) ts pt k p nums bd)) := by
  intro k
  induction k with
  | zero =>
    intro p g nums bd σ hpj hg hnl hnp hst hB hG hN
    obtain ⟨g, rfl⟩ : ∃ h, g = h + 1 := ⟨g - 1, by omega⟩
    unfold JB_extend_g JB_extend_b0
    rw [if_neg (by rw [i_lt (by omega) (by omega)]; omega)]
    simp only [and1_1, if_true, wp_some]
    exact ⟨rfl, fr.rf, hN⟩
  | succ k ih =>
    intro p g nums bd σ hpj hg hnl hnp hst hB hG hN
    obtain ⟨g, rfl⟩ : ∃ h, g = h + 1 := ⟨g - 1, by omega⟩
    unfold JB_extend_g JB_extend_b0
    rw [if_pos (by rw [i_lt (by omega) (by omega)]; omega)]
    have hB' := hB
    obtain ⟨u, h1, h2, h3, h4⟩ := hB'
    exact JB_extend_L hs (by omega) hok hts (fun nums bd σ a b c d e f => ih (p + 1) g nums bd σ (by omega) (by omega) a b c d e f) nums hnl hnp bd h1 u 0 f0 ts σ hst hB hG hN h3 h2 h4 (fun _ h => h) (by omega) (by omega)
theorem JB_searchFor_s {n s joined f : Nat} {ts : List Tp} {pt : Nat → Nat → List Fm} {σ : J} (hs : s < n) (hok : ∀ p, p < 3 → okGs (pt s p)) (hts : okS ts) (hf : 60 ≤ f) (hj3 : joined ≤ 3) (hst : cSt n σ) (hB : cB σ ts) (hG : cPs n σ pt) : wp (JB_searchFor n f s (i joined) σ) (fun q => q.1 = b01 (a_search s ts (pt s) joined).isSome ∧ fr Zt σ q.2 ∧ ∀ r, a_search s ts (pt s) joined = some r → cN q.2 0 r) := by
  unfold JB_searchFor JB_searchFor_b0 JB_extend
  refine wp_bind (Finding_clear_s (by omega)) (fun τ h => ?_)
  have hf1 : fr Zt σ τ := h.2.up (fun k z h => ⟨h.1, by omega, h.2.2⟩)
  refine wp_bind (JB_extend_s hs hok hts hf hj3 joined 0 4 [] bd0 τ (by omega) (by omega) rfl (fun m hm => by cases hm) (hst.fr hf1 (by unfold Zt; omega) (fun s _ => Or.inl (by unfold Zt; omega)) (fun s _ => by unfold Zt; omega) (by unfold Zt; omega)) (hB.fr hf1 (by unfold Zt; omega) (by unfold Zt; omega) (fun z _ => by unfold Zt; omega)) (fun q hq => (hG s q hs hq).fr hf1 (by unfold Zt; omega) (by unfold Zt; omega) (by unfold Zt; omega) (by unfold Zt; omega)) h.1) (fun q hq => ?_)
  obtain ⟨q1, q2⟩ := q
  obtain ⟨d1, d2, d3⟩ := hq
  replace d1 : q1 = _ := d1
  subst d1
  simp only [b01_a, if_true, wp_some]
  refine ⟨rfl, hf1.tr d2, fun r hr => ?_⟩
  replace hr : a_dfs (i s) ts (pt s) joined 0 [] bd0 = some r := hr
  rw [hr] at d3
  exact d3
