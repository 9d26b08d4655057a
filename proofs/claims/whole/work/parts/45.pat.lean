/-! The class's patterns. Ours. -/
theorem of4 : ∀ v, v < 4 → (Int64.ofNat v).toInt32 = i v := by decide +kernel
theorem okG.v7 {g : Fm} (h : okG g) (h7 : g.1 = i 7) : ∃ v, v < 4 ∧ g.2.1.toInt32 = i v ∧ g.2.1.toInt32.toNatClampNeg = v := by
  obtain ⟨v, hv, e⟩ := h.2.1 h7
  exact ⟨v, hv, by rw [e, of4 v hv], by rw [e, of4 v hv, i_n (by omega)]⟩
theorem okG.v8 {g : Fm} (h : okG g) (h8 : g.1 = i 8) : ∃ v, v < 2 ∧ g.2.1.toInt32 = i v ∧ g.2.1.toInt32.toNatClampNeg = v ∧ g.2.1 = Int64.ofNat v := by
  obtain ⟨v, hv, e⟩ := h.2.2 h8
  exact ⟨v, hv, by rw [e, of4 v (by omega)], by rw [e, of4 v (by omega), i_n (by omega)], e⟩
/-- what is bound stays as it is -/
def kpN (σ τ : J) (y : Nat) (bd : Bd) : Prop := τ.2.1 13 y = σ.2.1 13 y ∧ ∀ v, v < 4 → (bd v).isSome = true → τ.2.1 14 y v = σ.2.1 14 y v ∧ τ.2.2.1 15 y v = σ.2.2.1 15 y v
def bdle (a b : Bd) : Prop := ∀ v, (a v).isSome = true → (b v).isSome = true
theorem a_holds_le {g : Fm} {x : FV} {nums : List Int32} {bd bd1 : Bd} (h : a_holds g x nums bd = some bd1) : bdle bd bd1 := by
  intro v hv
  unfold a_holds at h
  have hs : ∀ {c : Prop} {d : Decidable c}, (@ite (Option Bd) c d (some bd) none) = some bd1 → (bd1 v).isSome = true := by
    intro c d hc
    by_cases q : c
    · rw [if_pos q] at hc; cases hc; exact hv
    · rw [if_neg q] at hc; cases hc
  have hn : ∀ {c : Prop} {d : Decidable c}, (@ite (Option Bd) c d none (some bd)) = some bd1 → (bd1 v).isSome = true := by
    intro c d hc
    by_cases q : c
    · rw [if_pos q] at hc; cases hc
    · rw [if_neg q] at hc; cases hc; exact hv
  split at h
  · exact hs h
  split at h
  · exact hs h
  split at h
  · exact hn h
  split at h
  · exact hs h
  split at h
  · exact hs h
  split at h
  · exact hs h
  split at h
  · split at h
    · cases h
      show (if v = _ then some x else bd v).isSome = true
      split
      · rfl
      · exact hv
    · exact hs h
  split at h
  · split at h
    · cases h
    · exact hs h
  split at h
  · exact hs h
  · cases h; exact hv
theorem wp_ite {α : Type} {c : Prop} {d : Decidable c} {x y : Option α} {P : α → Prop} (h1 : c → wp x P) (h2 : ¬ c → wp y P) : wp (@ite _ c d x y) P := by
  by_cases h : c
  · rw [if_pos h]; exact h1 h
  · rw [if_neg h]; exact h2 h
/-- the end of a step of matching -/
def hQ (σ : J) (nums : List Int32) (bd : Bd) (o : Option Bd) (q : Int32 × J) : Prop := match o with
  | none => q = (b01 false, σ)
  | some bd1 => q.1 = b01 true ∧ cN q.2 0 (nums, bd1) ∧ kpN σ q.2 0 bd ∧ fr (fun a b => 12 ≤ a ∧ a ≤ 15 ∧ b = 0) σ q.2
theorem hQ.t {σ : J} {nums : List Int32} {bd : Bd} (h : cN σ 0 (nums, bd)) : hQ σ nums bd (some bd) (1, σ) := ⟨rfl, h, ⟨rfl, fun _ _ _ => ⟨rfl, rfl⟩⟩, fr.rf⟩
theorem hQ.f {σ : J} {nums : List Int32} {bd : Bd} : hQ σ nums bd none (0, σ) := rfl
theorem pos_ne {m : Int32} (h : ∃ k, 1 ≤ k ∧ k < 2147483648 ∧ m = i k) : ¬ m.toInt64 = -1 := by
  obtain ⟨k, h1, h2, rfl⟩ := h
  intro q
  have := congrArg Int64.toInt q
  rw [Int32.toInt_toInt64, i_t h2] at this
  have h3 : ((-1 : Int64)).toInt = -1 := rfl
  omega
theorem Pattern_holds_s {n : Nat} {σ : J} {z j : Nat} {g : Fm} {gs : List Fm} {x : FV} {nums : List Int32} {bd : Bd} (hG : cG σ z gs) (hj : gs[j]? = some g) (hl : gs.length ≤ 4) (hg : okG g) (hN : cN σ 0 (nums, bd)) (hp : ∀ m ∈ nums, ∃ k, 1 ≤ k ∧ k < 2147483648 ∧ m = i k) (hn3 : nums.length ≤ 3) : wp (Pattern_holds n z (i j) x.1 x.2 0 σ) (hQ σ nums bd (a_holds g x nums bd)) := by
  have hjl := (List.getElem?_eq_some_iff.mp hj).1
  obtain ⟨e1, e2, e3⟩ := hG.2 j g hj
  unfold Pattern_holds Pattern_holds_b0
  have hin : q_in (i j) 4 = true := by rw [i_in (by omega)]; omega
  have hjn : (i j).toNatClampNeg = j := i_n (by omega)
  rw [if_pos hin, if_pos hin, if_pos hin]
  simp only [hjn, e1, e2, e3, lo, lq_eq, lq_lt, lq_gt, lq_ge, lq_le, ush]
  unfold Pattern_holds_b85 Pattern_holds_b105 Pattern_holds_b106 Pattern_holds_b122 Pattern_holds_b127 Pattern_holds_b143 Pattern_holds_b144 Pattern_holds_b160 Pattern_holds_b161 Pattern_holds_b184 Pattern_holds_b185 Pattern_holds_b228 Pattern_holds_b229 Pattern_holds_b268 Pattern_holds_b269
  unfold a_holds
  simp only [and1_0, and1_1, if_true]
  refine wp_ite (fun h1 => ?_) (fun h1 => ?_)
  · rw [if_pos h1]
    refine wp_ite (fun h => ?_) (fun h => ?_)
    · rw [if_pos h, wp_some]; exact hQ.t hN
    · rw [if_neg h, wp_some]; exact hQ.f
  rw [if_neg h1]
  refine wp_ite (fun h2 => ?_) (fun h2 => ?_)
  · rw [if_pos h2]
    refine wp_ite (fun h => ?_) (fun h => ?_)
    · refine wp_ite (fun k => ?_) (fun k => ?_)
      · rw [if_pos ⟨h, k⟩, wp_some]; exact hQ.t hN
      · rw [if_neg (fun q => k q.2), wp_some]; exact hQ.f
    · rw [if_neg (fun q => h q.1), wp_some]; exact hQ.f
  rw [if_neg h2]
  refine wp_ite (fun h3 => ?_) (fun h3 => ?_)
  · rw [if_pos h3]
    refine wp_ite (fun h => ?_) (fun h => ?_)
    · refine wp_ite (fun k => ?_) (fun k => ?_)
      · rw [if_pos ⟨h, k⟩, wp_some]; exact hQ.f
      · rw [if_neg (fun q => k q.2), wp_some]; exact hQ.t hN
    · rw [if_neg (fun q => h q.1), wp_some]; exact hQ.t hN
  rw [if_neg h3]
  refine wp_ite (fun h4 => ?_) (fun h4 => ?_)
  · rw [if_pos h4]
    refine wp_ite (fun h => ?_) (fun h => ?_)
    · refine wp_ite (fun k => ?_) (fun k => ?_)
      · rw [if_neg (fun q => k q.2), wp_some]; exact hQ.f
      · rw [if_pos ⟨h, Classical.not_not.mp k⟩, wp_some]; exact hQ.t hN
    · rw [if_neg (fun q => h q.1), wp_some]; exact hQ.f
  rw [if_neg h4]
  refine wp_ite (fun h5 => ?_) (fun h5 => ?_)
  · rw [if_pos h5]
    refine wp_ite (fun h => ?_) (fun h => ?_)
    · refine wp_ite (fun k => ?_) (fun k => ?_)
      · rw [if_neg (fun q => k q.2), wp_some]; exact hQ.f
      · rw [if_pos ⟨h, Classical.not_not.mp k⟩, wp_some]; exact hQ.t hN
    · rw [if_neg (fun q => h q.1), wp_some]; exact hQ.f
  rw [if_neg h5]
  refine wp_ite (fun h6 => ?_) (fun h6 => ?_)
  · rw [if_pos h6]
    refine wp_ite (fun h => ?_) (fun h => ?_)
    · refine wp_ite (fun k => ?_) (fun k => ?_)
      · rw [if_neg (fun q => q.2.1 k), wp_some]; exact hQ.f
      · refine wp_ite (fun k2 => ?_) (fun k2 => ?_)
        · rw [if_neg (fun q => q.2.2 k2), wp_some]; exact hQ.f
        · rw [if_pos ⟨h, k, k2⟩, wp_some]; exact hQ.t hN
    · rw [if_neg (fun q => h q.1), wp_some]; exact hQ.f
  rw [if_neg h6]
  refine wp_ite (fun h7 => ?_) (fun h7 => ?_)
  · rw [if_pos h7]
    obtain ⟨v, hv, ev, en⟩ := hg.v7 h7
    rw [ev, i_n (by omega)]
    refine wp_bind (Finding_bindOrCompare_s (n := n) (x := x) hN hv) (fun q hq => ?_)
    obtain ⟨q1, q2⟩ := q
    obtain ⟨hfr, hq⟩ := hq
    have hk := hN.2
    obtain ⟨m, hm, hm1, hm2⟩ := hk
    cases hb : bd v with
    | none =>
      rw [hb] at hq
      obtain ⟨h8, hq, ha, hb2⟩ := hq
      replace h8 : q1 = b01 true := h8
      subst h8
      simp only [b01_a, if_true, wp_some]
      refine ⟨rfl, hq, ⟨ha, fun w _ hw => hb2 w (fun e => ?_)⟩, hfr⟩
      rw [e, hb] at hw
      cases hw
    | some w =>
      rw [hb] at hq
      obtain ⟨h8, h9⟩ := hq
      replace h8 : q1 = _ := h8
      replace h9 : q2 = σ := h9
      subst h8
      subst h9
      simp only [b01_a, if_true, wp_some]
      by_cases hw : w = x
      · rw [if_pos hw]
        subst hw
        simp only [decide_true]
        exact hQ.t hN
      · simp only [hw, if_false, decide_false]
        exact hQ.f
  rw [if_neg h7]
  refine wp_ite (fun h8 => ?_) (fun h8 => ?_)
  · rw [if_pos h8]
    obtain ⟨v, hv, ev, en, -⟩ := hg.v8 h8
    rw [ev, i_n (by omega)]
    rw [Finding_numberFor_s hN (show v < 3 by omega)]
    simp only [some_bind]
    show wp _ (hQ σ nums bd (match nums[v]? with | none => none | some m => if x.1 = i 2 ∧ x.2 = m.toInt64 then some bd else none))
    have hd : nums.getD v im = match nums[v]? with | none => im | some m => m := by
      rw [List.getD_eq_getElem?_getD]
      cases nums[v]? <;> rfl
    refine wp_ite (fun h => ?_) (fun h => ?_)
    · replace h : x.1 = i 2 := h
      refine wp_ite (fun k => ?_) (fun k => ?_)
      · rw [wp_some]
        cases hm : nums[v]? with
        | none => exact hQ.f
        | some m =>
          show hQ σ nums bd (if x.1 = i 2 ∧ x.2 = m.toInt64 then some bd else none) _
          rw [if_neg (fun q => pos_ne (hp m (List.mem_of_getElem? hm)) (q.2.symm.trans k))]
          exact hQ.f
      · refine wp_ite (fun k2 => ?_) (fun k2 => ?_)
        · rw [wp_some]
          cases hm : nums[v]? with
          | none =>
            rw [show (nums, bd).1.getD v im = im from by show nums.getD v im = im; rw [hd, hm]] at k2
            exact absurd k2 k
          | some m =>
            rw [show (nums, bd).1.getD v im = m from by show nums.getD v im = m; rw [hd, hm]] at k2
            show hQ σ nums bd (if x.1 = i 2 ∧ x.2 = m.toInt64 then some bd else none) _
            rw [if_pos ⟨h, k2⟩]
            exact hQ.t hN
        · rw [wp_some]
          cases hm : nums[v]? with
          | none => exact hQ.f
          | some m =>
            rw [show (nums, bd).1.getD v im = m from by show nums.getD v im = m; rw [hd, hm]] at k2
            show hQ σ nums bd (if x.1 = i 2 ∧ x.2 = m.toInt64 then some bd else none) _
            rw [if_neg (fun q => k2 q.2)]
            exact hQ.f
    · rw [wp_some]
      cases hm : nums[v]? with
      | none => exact hQ.f
      | some m =>
        show hQ σ nums bd (if x.1 = i 2 ∧ x.2 = m.toInt64 then some bd else none) _
        rw [if_neg (fun q => h q.1)]
        exact hQ.f
  rw [if_neg h8]
  refine wp_ite (fun h9 => ?_) (fun h9 => ?_)
  · rw [if_pos h9]
    refine wp_ite (fun h => ?_) (fun h => ?_)
    · refine wp_ite (fun k => ?_) (fun k => ?_)
      · rw [if_neg (fun q => q.2.1 k), wp_some]; exact hQ.f
      · refine wp_ite (fun k2 => ?_) (fun k2 => ?_)
        · rw [if_neg (fun q => q.2.2.1 k2), wp_some]; exact hQ.f
        · refine wp_ite (fun k3 => ?_) (fun k3 => ?_)
          · rw [if_pos ⟨h, k, k2, k3⟩, wp_some]; exact hQ.t hN
          · rw [if_neg (fun q => k3 q.2.2.2), wp_some]; exact hQ.f
    · rw [if_neg (fun q => h q.1), wp_some]; exact hQ.f
  rw [if_neg h9, wp_some]
  exact hQ.t hN
