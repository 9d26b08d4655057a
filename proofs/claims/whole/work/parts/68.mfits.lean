/-! The reference matches a tuple. Ours. -/
/-- what is bound at a level -/
def mbd (σ : J) (p : Nat) (bd : Bd) : Prop := ∀ v, v < 4 → bd v = if σ.2.1 52 0 (4 * p + v) = im then none else some (σ.2.1 52 0 (4 * p + v), σ.2.2.1 53 0 (4 * p + v))
/-- the rows of the levels alone; those below a level stay -/
def lvF (p : Nat) (σ τ : J) : Prop := mf (fun k => k = 52 ∨ k = 53) (fun _ => False) σ τ ∧ ∀ y, y < 4 * p → τ.2.1 52 0 y = σ.2.1 52 0 y ∧ τ.2.2.1 53 0 y = σ.2.2.1 53 0 y
theorem lvF.rf {p : Nat} {σ : J} : lvF p σ σ := ⟨mf.rf, fun _ _ => ⟨rfl, rfl⟩⟩
theorem lvF.tr {p : Nat} {σ τ υ : J} (h1 : lvF p σ τ) (h2 : lvF p τ υ) : lvF p σ υ := ⟨h1.1.tr h2.1, fun y hy => ⟨(h2.2 y hy).1.trans (h1.2 y hy).1, (h2.2 y hy).2.trans (h1.2 y hy).2⟩⟩
theorem mbd.lv {σ τ : J} {p q : Nat} {bd : Bd} (h : mbd σ q bd) (hf : lvF p σ τ) (hq : q < p) : mbd τ q bd := fun v hv => by
  rw [(hf.2 (4 * q + v) (by omega)).1, (hf.2 (4 * q + v) (by omega)).2]
  exact h v hv
def mAt (σ : J) (ts : List Tp) (nums : List Int32) : Prop := ∀ j m, nums[j]? = some m → ∃ a t, σ.2.1 54 0 j = i a ∧ a < 20 ∧ ts[a]? = some t ∧ t_num t = m
theorem M_bound_s {n fx p v : Nat} {x : FV} {bd : Bd} {σ : J} (hfx : fx < 80) (hp : p < 3) (hv : v < 4) (hk : σ.2.1 32 0 fx = x.1) (hvl : σ.2.2.1 33 0 fx = x.2) (hx : x.1 ≠ im) (hb : mbd σ (p + 1) bd) : wp (M_bound n (i fx) (i (4 * (p + 1) + v)) σ) (fun q => lvF (p + 1) σ q.2 ∧ match bd v with
    | none => q.1 = b01 true ∧ mbd q.2 (p + 1) (fun w => if w = v then some x else bd w)
    | some z => q.1 = b01 (decide (z = x)) ∧ q.2 = σ) := by
  have h16 : q_in (i (4 * (p + 1) + v)) 16 = true := by rw [i_in (by omega)]; omega
  have h80 : q_in (i fx) 80 = true := by rw [i_in (by omega)]; exact hfx
  have e := hb v hv
  unfold M_bound M_bound_b0 M_bound_b34 M_bound_b69 M_bound_b70
  simp only [h16, h80, if_true, bs_eq, and1_0, and1_1]
  rw [i_n (by omega), i_n (by omega), hk, hvl]
  simp only [lq_eq]
  by_cases h0 : σ.2.1 52 0 (4 * (p + 1) + v) = im
  · rw [if_pos h0] at e
    rw [if_pos (show σ.2.1 52 0 (4 * (p + 1) + v) = -1 from h0), e]
    simp (disch := omega) only [sI1, sI2, sA1, sA2, sA3, sL1, sL2, sL3, sL4, sP1, sP2, sP3, sP4, bs_eq, some_bind, wp_some, if_true, if_false, if_pos, if_neg, and_self, blt_eq, eq_self, upd, vp_updL, hk, hvl]
    refine ⟨⟨(mf.rf.sA (Or.inl rfl)).sL (Or.inr rfl), fun y hy => ?_⟩, rfl, fun w hw => ?_⟩
    · simp (disch := omega) only [sI1, sI2, sA1, sA2, sA3, sL1, sL2, sL3, sL4, sP1, sP2, sP3, sP4, bs_eq, some_bind, wp_some, if_true, if_false, if_pos, if_neg, and_self, blt_eq, eq_self, upd, vp_updL]
    · simp (disch := omega) only [sI1, sI2, sA1, sA2, sA3, sL1, sL2, sL3, sL4, sP1, sP2, sP3, sP4, bs_eq, some_bind, wp_some, if_true, if_false, if_pos, if_neg, and_self, blt_eq, eq_self, upd, vp_updL]
      by_cases hwv : w = v
      · subst hwv
        simp [hx]
      · rw [if_neg hwv, if_neg (show ¬ 4 * (p + 1) + w = 4 * (p + 1) + v by omega), if_neg (show ¬ 4 * (p + 1) + w = 4 * (p + 1) + v by omega)]
        exact hb w hw
  · rw [if_neg h0] at e
    rw [if_neg (show ¬ σ.2.1 52 0 (4 * (p + 1) + v) = -1 from h0), e]
    have hpq : ∀ {a : Int32} {b : Int64}, decide ((a, b) = x) = (decide (a = x.1) && decide (b = x.2)) := by
      intro a b
      obtain ⟨x1, x2⟩ := x
      by_cases e1 : a = x1 <;> by_cases e2 : b = x2 <;> simp [e1, e2]
    by_cases e1 : σ.2.1 52 0 (4 * (p + 1) + v) = x.1 <;> by_cases e2 : σ.2.2.1 53 0 (4 * (p + 1) + v) = x.2 <;> simp [e1, e2, wp_some, hpq, b01, lvF.rf]
def mhQ (σ : J) (p : Nat) (o : Option Bd) (q : Int32 × J) : Prop := q.1 = b01 o.isSome ∧ lvF (p + 1) σ q.2 ∧ ∀ bd1, o = some bd1 → mbd q.2 (p + 1) bd1
theorem mhQ.t {σ : J} {p : Nat} {bd : Bd} (h : mbd σ (p + 1) bd) : mhQ σ p (some bd) (1, σ) := ⟨rfl, lvF.rf, fun _ e => by cases e; exact h⟩
theorem mhQ.f {σ : J} {p : Nat} : mhQ σ p none (0, σ) := ⟨rfl, lvF.rf, fun _ e => by cases e⟩
theorem M_holds_s {n fx gx p : Nat} {g : Fm} {x : FV} {ts : List Tp} {nums : List Int32} {bd : Bd} {σ : J} (hfx : fx < 80) (hgx : gx < 72) (hp : p < 3) (hk : σ.2.1 32 0 fx = x.1) (hvl : σ.2.2.1 33 0 fx = x.2) (g1 : σ.2.1 39 0 gx = g.1) (g2 : σ.2.2.1 40 0 gx = g.2.1) (g3 : σ.2.2.1 41 0 gx = g.2.2) (hg : okG g) (hx : okF x) (hnl : nums.length = p) (hat : mAt σ ts nums) (hB : mB σ ts) (hb : mbd σ (p + 1) bd) : wp (M_holds n (i fx) (i gx) (i p) σ) (mhQ σ p (a_holds g x nums bd)) := by
  have h72 : q_in (i gx) 72 = true := by rw [i_in (by omega)]; exact hgx
  have h80 : q_in (i fx) 80 = true := by rw [i_in (by omega)]; exact hfx
  have hxm : x.1 ≠ im := by rcases hx with q | q | q <;> rw [q] <;> decide
  obtain ⟨c, hc, hcc⟩ := hg.1
  unfold M_holds M_holds_b0
  simp only [h72, h80, if_true]
  rw [i_n (by omega), i_n (by omega), hk, g2]
  simp only [lq_eq]
  have key : ∀ s0 : Bool, s0 = decide (x.1.toInt64 = g.2.1) → wp (M_holds_b22 n (i fx) (i gx) (i p) (b01 s0) σ) (mhQ σ p (a_holds g x nums bd)) := by
    intro s0 hs0
    unfold M_holds_b22 M_holds_b110 M_holds_b111 M_holds_b133 M_holds_b138 M_holds_b168 M_holds_b169 M_holds_b199 M_holds_b200 M_holds_b246 M_holds_b247 M_holds_b321 M_holds_b322 M_holds_b368 M_holds_b369
    simp only [h72, h80, if_true, and1_0, and1_1, b01_a, M_within_s, some_bind, b01_0]
    rw [i_n (by omega), i_n (by omega), hk, hvl, g1, g2, g3]
    simp only [lq_eq, lq_lt, lq_gt, lq_ge, lq_le, lo]
    have hT : s0 = true → x.1.toInt64 = g.2.1 := fun q => by rw [hs0] at q; exact of_decide_eq_true q
    have hF : s0 = false → ¬ x.1.toInt64 = g.2.1 := fun q => by rw [hs0] at q; exact of_decide_eq_false q
    unfold a_holds
    refine wp_ite (fun h0 => ?_) (fun h0 => ?_)
    · rw [if_neg (by rw [h0]; decide), if_neg (by rw [h0]; decide), if_neg (by rw [h0]; decide), if_neg (by rw [h0]; decide), if_neg (by rw [h0]; decide), if_neg (by rw [h0]; decide), if_neg (by rw [h0]; decide), if_neg (by rw [h0]; decide), if_neg (by rw [h0]; decide), wp_some]
      exact mhQ.t hb
    refine wp_ite (fun h1 => ?_) (fun h1 => ?_)
    · rw [if_pos h1, wp_some]
      cases s0 with
      | true => rw [if_pos (hT rfl)]; exact mhQ.t hb
      | false => rw [if_neg (hF rfl)]; exact mhQ.f
    rw [if_neg h1]
    refine wp_ite (fun h2 => ?_) (fun h2 => ?_)
    · rw [if_pos h2]
      cases s0 with
      | false => rw [if_pos rfl, if_neg (fun q => hF rfl q.1), wp_some]; exact mhQ.f
      | true =>
        rw [if_neg (show ¬ true = false by decide)]
        refine wp_ite (fun k => ?_) (fun k => ?_)
        · rw [if_pos ⟨hT rfl, k⟩, wp_some]; exact mhQ.t hb
        · rw [if_neg (fun q => k q.2), wp_some]; exact mhQ.f
    rw [if_neg h2]
    refine wp_ite (fun h3 => ?_) (fun h3 => ?_)
    · rw [if_pos h3]
      cases s0 with
      | false => rw [if_pos rfl, if_neg (fun q => hF rfl q.1), wp_some]; exact mhQ.t hb
      | true =>
        rw [if_neg (show ¬ true = false by decide)]
        refine wp_ite (fun k => ?_) (fun k => ?_)
        · rw [if_pos ⟨hT rfl, k⟩, wp_some]; exact mhQ.f
        · rw [if_neg (fun q => k q.2), wp_some]; exact mhQ.t hb
    rw [if_neg h3]
    refine wp_ite (fun h4 => ?_) (fun h4 => ?_)
    · rw [if_pos h4]
      refine wp_ite (fun h => ?_) (fun h => ?_)
      · refine wp_ite (fun k => ?_) (fun k => ?_)
        · rw [if_neg (fun q => k q.2), wp_some]; exact mhQ.f
        · rw [if_pos ⟨h, Classical.not_not.mp k⟩, wp_some]; exact mhQ.t hb
      · rw [if_neg (fun q => h q.1), wp_some]; exact mhQ.f
    rw [if_neg h4]
    refine wp_ite (fun h5 => ?_) (fun h5 => ?_)
    · rw [if_pos h5]
      refine wp_ite (fun h => ?_) (fun h => ?_)
      · refine wp_ite (fun k => ?_) (fun k => ?_)
        · rw [if_neg (fun q => k q.2), wp_some]; exact mhQ.f
        · rw [if_pos ⟨h, Classical.not_not.mp k⟩, wp_some]; exact mhQ.t hb
      · rw [if_neg (fun q => h q.1), wp_some]; exact mhQ.f
    rw [if_neg h5]
    refine wp_ite (fun h6 => ?_) (fun h6 => ?_)
    · rw [if_pos h6]
      refine wp_ite (fun h => ?_) (fun h => ?_)
      · refine wp_ite (fun k => ?_) (fun k => ?_)
        · rw [if_neg (fun q => q.2.1 k), wp_some]; exact mhQ.f
        · refine wp_ite (fun k2 => ?_) (fun k2 => ?_)
          · rw [if_neg (fun q => q.2.2 k2), wp_some]; exact mhQ.f
          · rw [if_pos ⟨h, k, k2⟩, wp_some]; exact mhQ.t hb
      · rw [if_neg (fun q => h q.1), wp_some]; exact mhQ.f
    rw [if_neg h6]
    refine wp_ite (fun h7 => ?_) (fun h7 => ?_)
    · rw [if_pos h7]
      obtain ⟨v, hv, ev, en⟩ := hg.v7 h7
      rw [ev, i_n (by omega), l4, i_mul, i_add, i_add, show 4 * p + 4 + v = 4 * (p + 1) + v by omega]
      refine wp_bind (M_bound_s (n := n) hfx hp hv hk hvl hxm hb) (fun q hq => ?_)
      obtain ⟨q1, q2⟩ := q
      obtain ⟨hfr, hq⟩ := hq
      cases hbv : bd v with
      | none =>
        rw [hbv] at hq
        obtain ⟨h8, hq⟩ := hq
        replace h8 : q1 = b01 true := h8
        subst h8
        simp only [b01_a, if_true, wp_some]
        exact ⟨rfl, hfr, fun bd1 e => by cases e; exact hq⟩
      | some w =>
        rw [hbv] at hq
        obtain ⟨h8, h9⟩ := hq
        replace h8 : q1 = _ := h8
        replace h9 : q2 = σ := h9
        subst h8
        subst h9
        simp only [b01_a, if_true, wp_some]
        by_cases hw : w = x
        · rw [if_pos hw]
          subst hw
          simp only [decide_true]
          exact mhQ.t hb
        · simp only [hw, if_false, decide_false]
          exact mhQ.f
    rw [if_neg h7]
    refine wp_ite (fun h8 => ?_) (fun h8 => ?_)
    · rw [if_pos h8]
      obtain ⟨v, hv, ev, en, eo⟩ := hg.v8 h8
      have h3 : q_in (i v) 3 = true := by rw [i_in (by omega)]; omega
      rw [ev, i_n (by omega), h3]
      simp only [if_true]
      have hlt : (g.2.1 < (i p).toInt64) = (v < p) := by
        rw [eo]
        apply propext
        rw [Int64.lt_iff_toInt_lt, i64_i (by omega), Int64.toInt_ofNat_of_lt (by omega)]
        omega
      show wp _ (mhQ σ p (match nums[v]? with | none => none | some m => if x.1 = i 2 ∧ x.2 = m.toInt64 then some bd else none))
      refine wp_ite (fun h => ?_) (fun h => ?_)
      · replace h : x.1 = i 2 := h
        refine wp_ite (fun k => ?_) (fun k => ?_)
        · rw [hlt] at k
          rw [List.getElem?_eq_none (by omega), wp_some]
          exact mhQ.f
        · rw [hlt] at k
          have hvp : v < p := by omega
          have hnv : nums[v]? = some nums[v] := List.getElem?_eq_getElem (by omega)
          obtain ⟨a, t, a1, a2, a3, a4⟩ := hat v _ hnv
          rw [hnv, a1, if_pos (by rw [i_in (by omega)]; exact a2), i_n (by omega), (hB.2.2 a t a3).1, a4]
          show wp _ (mhQ σ p (if x.1 = i 2 ∧ x.2 = nums[v].toInt64 then some bd else none))
          refine wp_ite (fun k2 => ?_) (fun k2 => ?_)
          · rw [if_pos ⟨h, k2⟩, wp_some]; exact mhQ.t hb
          · rw [if_neg (fun q => k2 q.2), wp_some]; exact mhQ.f
      · rw [wp_some]
        cases hm : nums[v]? with
        | none => exact mhQ.f
        | some m =>
          show mhQ σ p (if x.1 = i 2 ∧ x.2 = m.toInt64 then some bd else none) _
          rw [if_neg (fun q => h q.1)]
          exact mhQ.f
    have h9 : g.1 = i 9 := by
      rw [hcc] at h0 h1 h2 h3 h4 h5 h6 h7 h8 ⊢
      have hne : ∀ {b : Nat}, b ≤ 9 → ¬ i c = i b → c ≠ b := fun hb h e => h (by rw [e])
      have := hne (by decide) h0
      have := hne (by decide) h1
      have := hne (by decide) h2
      have := hne (by decide) h3
      have := hne (by decide) h4
      have := hne (by decide) h5
      have := hne (by decide) h6
      have := hne (by decide) h7
      have := hne (by decide) h8
      rw [show c = 9 by omega]
    rw [if_neg h8, if_pos h9]
    cases s0 with
    | false => rw [if_pos rfl, if_neg (fun q => hF rfl q.1), wp_some]; exact mhQ.f
    | true =>
      rw [if_neg (show ¬ true = false by decide)]
      by_cases k1 : x.2 < 0
      · rw [decide_eq_true k1, if_pos (show (!true && !decide (63 < x.2)) = false from rfl), if_neg (fun q => q.2.1 k1), wp_some]; exact mhQ.f
      · by_cases k2 : 63 < x.2
        · rw [decide_eq_false k1, decide_eq_true k2, if_pos (show (!false && !true) = false from rfl), if_neg (fun q => q.2.2.1 k2), wp_some]; exact mhQ.f
        · rw [decide_eq_false k1, decide_eq_false k2, if_neg (show ¬ (!false && !false) = false by decide)]
          refine wp_ite (fun k3 => ?_) (fun k3 => ?_)
          · rw [if_pos ⟨hT rfl, k1, k2, k3⟩, wp_some]; exact mhQ.t hb
          · rw [if_neg (fun q => k3 q.2.2.2), wp_some]; exact mhQ.f
  by_cases he : x.1.toInt64 = g.2.1
  · rw [if_pos he]
    exact key true (by rw [decide_eq_true he])
  · rw [if_neg he]
    exact key false (by rw [decide_eq_false he])
