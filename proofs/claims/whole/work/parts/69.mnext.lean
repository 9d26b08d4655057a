/-! The reference looks for the next tuple. Ours. -/
theorem lvF.B {p : Nat} {σ τ : J} {ts : List Tp} (h : lvF p σ τ) (hB : mB σ ts) : mB τ ts := hB.fr h.1 (fun k _ _ => by omega) (fun q => q)
theorem lvF.G {p r : Nat} {σ τ : J} {gs : List Fm} (h : lvF p σ τ) (hG : mG σ r gs) : mG τ r gs := hG.fr h.1 (fun k _ _ => by omega)
theorem lvF.A {p : Nat} {σ τ : J} {ts : List Tp} {nums : List Int32} (h : lvF p σ τ) (hA : mAt σ ts nums) : mAt τ ts nums := fun j m hm => by
  rw [(h.1.1 54 (by omega)).1]
  exact hA j m hm
/-- the forms, one after another -/
theorem M_fits_L {n j r p : Nat} {gs : List Fm} {xs : List FV} {ts : List Tp} {nums : List Int32} (hj : j < 20) (hr : r < 18) (hp : p < 3) (hl : gs.length ≤ 4) (hok : ∀ g ∈ gs, okG g) (hokx : ∀ x ∈ xs, okF x) (hnl : nums.length = p) :
    ∀ (gs1 : List Fm) (xs1 : List FV) (k f : Nat) (σ : J) (bd : Bd), gs.drop k = gs1 → xs.drop k = xs1 → gs1.length = xs1.length → k ≤ 4 → gs1.length < f → mG σ r gs → FR (σ.2.1 26 0 j) (fun q => σ.2.1 32 0 (4 * j + q)) (fun q => σ.2.2.1 33 0 (4 * j + q)) xs → mAt σ ts nums → mB σ ts → mbd σ (p + 1) bd → wp (M_fits_L78 n f (i j) (i r) (i p) (b01 true) (i k) σ) (mhQ σ p (a_fits gs1 xs1 nums bd)) := by
  intro gs1
  induction gs1 with
  | nil =>
    intro xs1 k f σ bd hg hx hlen hk hf hG hF hA hB hb
    obtain ⟨f, rfl⟩ : ∃ g, f = g + 1 := ⟨f - 1, by omega⟩
    have := List.drop_eq_nil_iff.mp hg
    cases xs1 with
    | cons _ _ => cases hlen
    | nil =>
      show wp (M_fits_b78 n (M_fits_L78 n f) f (i j) (i r) (i p) (b01 true) (i k) σ) _
      unfold M_fits_b78 M_fits_b119
      rw [if_pos (by rw [i_in (by omega)]; exact hr), i_n (by omega), hG.1, if_pos (by rw [i_le (by omega) (by omega)]; exact this)]
      simp only [b01_a, if_true, wp_some]
      exact ⟨rfl, lvF.rf, fun _ e => by cases e; exact hb⟩
  | cons g gs1 ih =>
    intro xs1 k f σ bd hg hx hlen hk hf hG hF hA hB hb
    obtain ⟨f, rfl⟩ : ∃ g, f = g + 1 := ⟨f - 1, by omega⟩
    have hfl : gs1.length < f := by simp at hf; omega
    cases xs1 with
    | nil => cases hlen
    | cons x xs1 =>
      obtain ⟨g1, g2⟩ := drop_cons hg
      obtain ⟨x1, x2⟩ := drop_cons hx
      have hkl := (List.getElem?_eq_some_iff.mp g1).1
      obtain ⟨e1, e2, e3⟩ := hG.2 k g g1
      obtain ⟨e4, e5⟩ := hF.2 k x x1
      show wp (M_fits_b78 n (M_fits_L78 n f) f (i j) (i r) (i p) (b01 true) (i k) σ) _
      unfold M_fits_b78
      rw [if_pos (by rw [i_in (by omega)]; exact hr), i_n (by omega), hG.1, if_neg (by rw [i_le (by omega) (by omega)]; omega), if_neg (show ¬ b01 true = 0 by decide), l4, i_mul, i_mul, i_add, i_add]
      refine wp_bind (M_holds_s (n := n) (g := g) (x := x) (by omega) (by omega) hp e4 e5 e1 e2 e3 (hok g (List.mem_of_getElem? g1)) (hokx x (List.mem_of_getElem? x1)) hnl hA hB hb) (fun q hq => ?_)
      obtain ⟨q1, q2⟩ := q
      obtain ⟨d1, d2, d3⟩ := hq
      replace d1 : q1 = _ := d1
      subst d1
      dsimp only at d2 d3 ⊢
      rw [l1, i_add]
      unfold a_fits
      have hF2 : FR (q2.2.1 26 0 j) (fun q => q2.2.1 32 0 (4 * j + q)) (fun q => q2.2.2.1 33 0 (4 * j + q)) xs := by
        rw [(d2.1.1 26 (by omega)).1, (d2.1.1 32 (by omega)).1, (d2.1.1 33 (by omega)).2]
        exact hF
      cases ho : a_holds g x nums bd with
      | none =>
        obtain ⟨f, rfl⟩ : ∃ g, f = g + 1 := ⟨f - 1, by omega⟩
        show wp (M_fits_b78 n (M_fits_L78 n f) f (i j) (i r) (i p) (b01 false) (i (k + 1)) q2) _
        unfold M_fits_b78 M_fits_b119
        rw [if_pos (by rw [i_in (by omega)]; exact hr), if_pos (show b01 false = 0 from rfl)]
        simp only [b01_a, if_true]
        refine wp_ite (fun _ => ?_) (fun _ => ?_) <;> (rw [wp_some]; exact ⟨rfl, d2, fun _ e => by cases e⟩)
      | some bd1 =>
        refine wp_mono (ih xs1 (k + 1) f q2 bd1 g2 x2 (by simpa using hlen) (by omega) hfl (d2.G hG) hF2 (d2.A hA) (d2.B hB) (d3 bd1 ho)) (fun q hq => ⟨hq.1, d2.tr hq.2.1, hq.2.2⟩)
/-- the level is copied -/
theorem M_fits_cp {n j r p : Nat} (hp : p < 3) {Q : Int32 × J → Prop} :
    ∀ (m q f : Nat) (σ : J), q + m = 4 → m + 10 ≤ f → (∀ (τ : J) (f1 : Nat), 6 ≤ f1 → lvF (p + 1) σ τ → (∀ v, q ≤ v → v < 4 → τ.2.1 52 0 (4 * (p + 1) + v) = σ.2.1 52 0 (4 * p + v) ∧ τ.2.2.1 53 0 (4 * (p + 1) + v) = σ.2.2.1 53 0 (4 * p + v)) → (∀ v, v < q → τ.2.1 52 0 (4 * (p + 1) + v) = σ.2.1 52 0 (4 * (p + 1) + v) ∧ τ.2.2.1 53 0 (4 * (p + 1) + v) = σ.2.2.1 53 0 (4 * (p + 1) + v)) → wp (if q_in (i j) 20 = true then if q_in (i r) 18 = true then if (τ.2.1 26 0 (i j).toNatClampNeg) = (τ.2.1 38 0 (i r).toNatClampNeg) then M_fits_b73 n f1 (i j) (i r) (i p) 1 τ else M_fits_b73 n f1 (i j) (i r) (i p) 0 τ else none else none) Q) → wp (M_fits_L5 n f (i j) (i r) (i p) (i (4 * p + q)) σ) Q := by
  intro m
  induction m with
  | zero =>
    intro q f σ hq hf kk
    obtain ⟨f, rfl⟩ : ∃ g, f = g + 1 := ⟨f - 1, by omega⟩
    show wp (M_fits_b5 n (M_fits_L5 n f) f (i j) (i r) (i p) (i (4 * p + q)) σ) _
    unfold M_fits_b5
    rw [l4, i_mul, i_add, if_pos (by rw [i_le (by omega) (by omega)]; omega)]
    exact kk σ f (by omega) lvF.rf (fun v h1 h2 => by omega) (fun v _ => ⟨rfl, rfl⟩)
  | succ m ih =>
    intro q f σ hq hf kk
    obtain ⟨f, rfl⟩ : ∃ g, f = g + 1 := ⟨f - 1, by omega⟩
    show wp (M_fits_b5 n (M_fits_L5 n f) f (i j) (i r) (i p) (i (4 * p + q)) σ) _
    unfold M_fits_b5
    have h1 : q_in (i (4 * p + q)) 16 = true := by rw [i_in (by omega)]; omega
    have h2 : q_in (i (4 * p + q + 4)) 16 = true := by rw [i_in (by omega)]; omega
    rw [l4, i_mul, i_add, i_add, l1, i_add, if_neg (by rw [i_le (by omega) (by omega)]; omega)]
    simp only [h1, h2, if_true, bs_eq]
    rw [i_n (by omega), i_n (by omega)]
    refine ih (q + 1) f _ (by omega) (by omega) (fun τ f1 hf1 k1 k2 k3 => ?_)
    have hlv : lvF (p + 1) σ (q_sL (q_sA σ 52 0 (upd (σ.2.1 52 0) (4 * p + q + 4) (σ.2.1 52 0 (4 * p + q)))) 53 0 (vp_updL ((q_sA σ 52 0 (upd (σ.2.1 52 0) (4 * p + q + 4) (σ.2.1 52 0 (4 * p + q)))).2.2.1 53 0) (4 * p + q + 4) ((q_sA σ 52 0 (upd (σ.2.1 52 0) (4 * p + q + 4) (σ.2.1 52 0 (4 * p + q)))).2.2.1 53 0 (4 * p + q)))) := by
      refine ⟨(mf.rf.sA (Or.inl rfl)).sL (Or.inr rfl), fun y hy => ?_⟩
      simp (disch := omega) only [sI1, sI2, sA1, sA2, sA3, sL1, sL2, sL3, sL4, sP1, sP2, sP3, sP4, bs_eq, some_bind, wp_some, if_true, if_false, if_pos, if_neg, and_self, blt_eq, eq_self, upd, vp_updL]
    refine kk τ f1 hf1 (hlv.tr k1) (fun v v1 v2 => ?_) (fun v hv => ?_)
    · by_cases e : v = q
      · subst e
        obtain ⟨a1, a2⟩ := k3 v (by omega)
        rw [a1, a2]
        simp (disch := omega) only [sI1, sI2, sA1, sA2, sA3, sL1, sL2, sL3, sL4, sP1, sP2, sP3, sP4, bs_eq, some_bind, wp_some, if_true, if_false, if_pos, if_neg, and_self, blt_eq, eq_self, upd, vp_updL]
      · obtain ⟨a1, a2⟩ := k2 v (by omega) v2
        rw [a1, a2]
        simp (disch := omega) only [sI1, sI2, sA1, sA2, sA3, sL1, sL2, sL3, sL4, sP1, sP2, sP3, sP4, bs_eq, some_bind, wp_some, if_true, if_false, if_pos, if_neg, and_self, blt_eq, eq_self, upd, vp_updL]
    · obtain ⟨a1, a2⟩ := k3 v (by omega)
      rw [a1, a2]
      simp (disch := omega) only [sI1, sI2, sA1, sA2, sA3, sL1, sL2, sL3, sL4, sP1, sP2, sP3, sP4, bs_eq, some_bind, wp_some, if_true, if_false, if_pos, if_neg, and_self, blt_eq, eq_self, upd, vp_updL]
theorem M_fits_s {n j r p f : Nat} {gs : List Fm} {t : Tp} {ts : List Tp} {nums : List Int32} {bd : Bd} {σ : J} (hj : j < 20) (hr : r < 18) (hp : p < 3) (hok : okGs gs) (hokx : okFs (t_fs t)) (hnl : nums.length = p) (hf : 20 ≤ f) (hG : mG σ r gs) (hT : mT σ j t) (hA : mAt σ ts nums) (hB : mB σ ts) (hb : mbd σ p bd) : wp (M_fits n f (i j) (i r) (i p) σ) (mhQ σ p (a_fits gs (t_fs t) nums bd)) := by
  unfold M_fits M_fits_b0
  rw [l4, i_mul, show i (4 * p) = i (4 * p + 0) from rfl]
  refine M_fits_cp hp 4 0 f σ (by decide) (by omega) (fun τ f1 hf1 k1 k2 _ => ?_)
  have hG1 := k1.G hG
  have hT1 : mT τ j t := hT.fr k1.1 (fun k _ _ => by omega)
  have hb1 : mbd τ (p + 1) bd := fun v hv => by
    obtain ⟨a1, a2⟩ := k2 v (Nat.zero_le _) hv
    rw [a1, a2]
    exact hb v hv
  have hl := hok.1
  have hlx := hokx.1
  have hF := hT1.2.2.2.2.2.2
  rw [if_pos (by rw [i_in (by omega)]; exact hj), if_pos (by rw [i_in (by omega)]; exact hr), i_n (by omega), i_n (by omega), hF.1, hG1.1]
  unfold M_fits_b73
  by_cases e : (t_fs t).length = gs.length
  · rw [if_pos (by rw [e])]
    refine wp_mono (M_fits_L hj hr hp hl hok.2 hokx.2 hnl gs (t_fs t) 0 f1 τ bd rfl rfl e.symm (by omega) (by omega) hG1 hF (k1.A hA) (k1.B hB) hb1) (fun q hq => ⟨hq.1, k1.tr hq.2.1, hq.2.2⟩)
  · rw [if_neg (by rw [i_eq (by omega) (by omega)]; exact e), a_fits_len (fun q => e q.symm)]
    obtain ⟨f1, rfl⟩ : ∃ g, f1 = g + 1 := ⟨f1 - 1, by omega⟩
    show wp (M_fits_b78 n (M_fits_L78 n f1) f1 (i j) (i r) (i p) (b01 false) (i 0) τ) _
    unfold M_fits_b78 M_fits_b119
    rw [if_pos (by rw [i_in (by omega)]; exact hr), if_pos (show b01 false = 0 from rfl)]
    simp only [b01_a, if_true]
    refine wp_ite (fun _ => ?_) (fun _ => ?_) <;> (rw [wp_some]; exact ⟨rfl, k1, fun _ e => by cases e⟩)
/-- a tuple that would do at this level -/
def a_cand (s : Int32) (gs : List Fm) (nums : List Int32) (bd : Bd) (t : Tp) : Option Bd := if a_sees s t = true ∧ t_num t ∉ nums then a_fits gs (t_fs t) nums bd else none
def okB (n : Nat) (ts : List Tp) : Prop := (ts.map t_num).Nodup ∧ ∀ t ∈ ts, okM n t ∧ okFs (t_fs t)
theorem at_eq {σ : J} {ts : List Tp} {nums : List Int32} {j k : Nat} {m : Int32} {t : Tp} (hnd : (ts.map t_num).Nodup) (h20 : ts.length ≤ 20) (hA : mAt σ ts nums) (hj : nums[j]? = some m) (hk : ts[k]? = some t) : (σ.2.1 54 0 j = i k) = (t_num t = m) := by
  obtain ⟨a, u, a1, a2, a3, a4⟩ := hA j m hj
  have hkl := (List.getElem?_eq_some_iff.mp hk).1
  rw [a1, i_eq (by omega) (by omega)]
  apply propext
  constructor
  · intro e
    subst e
    rw [a3] at hk
    cases hk
    exact a4
  · intro e
    have h1 : (ts.map t_num)[a]? = some m := by rw [List.getElem?_map, a3]; exact congrArg some a4
    have h2 : (ts.map t_num)[k]? = some m := by rw [List.getElem?_map, hk]; exact congrArg some e
    exact (List.getElem?_inj (by rw [List.length_map]; exact (List.getElem?_eq_some_iff.mp a3).1) hnd).mp (h1.trans h2.symm)
theorem nums3 {l : List Int32} (h : l.length < 3) : l = [] ∨ (∃ a, l = [a]) ∨ ∃ a b, l = [a, b] := by
  match l, h with
  | [], _ => exact Or.inl rfl
  | [a], _ => exact Or.inr (Or.inl ⟨a, rfl⟩)
  | [a, b], _ => exact Or.inr (Or.inr ⟨a, b, rfl⟩)
theorem M_next_L {n s p : Nat} {gs : List Fm} {ts : List Tp} {nums : List Int32} {bd : Bd} (hn : n ≤ 4) (hs : s < n) (hp : p < 3) (hok : okGs gs) (hts : okB n ts) (hnl : nums.length = p) :
    ∀ (m1 : List Tp) (k f : Nat) (σ : J), ts.drop k = m1 → k ≤ ts.length → m1.length + 30 ≤ f → mG σ (3 * s + p) gs → mAt σ ts nums → mB σ ts → mbd σ p bd → wp (M_next_L3 n f (i s) (i p) (i k) σ) (fun q => lvF (p + 1) σ q.2 ∧ ((q.1 = i ts.length ∧ ∀ t ∈ m1, a_cand (i s) gs nums bd t = none) ∨ ∃ pre t post bd1, m1 = pre ++ t :: post ∧ (∀ u ∈ pre, a_cand (i s) gs nums bd u = none) ∧ a_cand (i s) gs nums bd t = some bd1 ∧ q.1 = i (k + pre.length) ∧ mbd q.2 (p + 1) bd1)) := by
  intro m1
  induction m1 with
  | nil =>
    intro k f σ hd hk hf hG hA hB hb
    obtain ⟨f, rfl⟩ : ∃ g, f = g + 1 := ⟨f - 1, by omega⟩
    have := List.drop_eq_nil_iff.mp hd
    have h20 := hB.2.1
    show wp (M_next_b3 n (M_next_L3 n f) f (i s) (i p) (i k) σ) _
    unfold M_next_b3
    rw [hB.1, if_pos (by rw [i_le (by omega) (by omega)]; exact this), wp_some]
    exact ⟨lvF.rf, Or.inl ⟨rfl, fun t ht => by cases ht⟩⟩
  | cons t m1 ih =>
    intro k f σ hd hk hf hG hA hB hb
    obtain ⟨f, rfl⟩ : ∃ g, f = g + 1 := ⟨f - 1, by omega⟩
    have hfl : m1.length + 30 ≤ f := by simp at hf; omega
    obtain ⟨d1, d2⟩ := drop_cons hd
    have hkl := (List.getElem?_eq_some_iff.mp d1).1
    have h20 := hB.2.1
    have htm := List.mem_of_getElem? d1
    have hT := hB.2.2 k t d1
    -- on with the next
    have go : ∀ τ : J, lvF (p + 1) σ τ → a_cand (i s) gs nums bd t = none → wp (M_next_L3 n f (i s) (i p) (i k + 1) τ) (fun q => lvF (p + 1) σ q.2 ∧ ((q.1 = i ts.length ∧ ∀ u ∈ t :: m1, a_cand (i s) gs nums bd u = none) ∨ ∃ pre u post bd1, t :: m1 = pre ++ u :: post ∧ (∀ u ∈ pre, a_cand (i s) gs nums bd u = none) ∧ a_cand (i s) gs nums bd u = some bd1 ∧ q.1 = i (k + pre.length) ∧ mbd q.2 (p + 1) bd1)) := by
      intro τ hf1 hc
      rw [l1, i_add]
      refine wp_mono (ih (k + 1) f τ d2 (by omega) hfl (hf1.G hG) (hf1.A hA) (hf1.B hB) (hb.lv hf1 (by omega))) (fun q hq => ⟨hf1.tr hq.1, ?_⟩)
      rcases hq.2 with ⟨q1, q2⟩ | ⟨pre, u, post, bd1, q1, q2, q3, q4, q5⟩
      · refine Or.inl ⟨q1, fun u hu => ?_⟩
        rcases List.mem_cons.mp hu with rfl | hu
        · exact hc
        · exact q2 u hu
      · refine Or.inr ⟨t :: pre, u, post, bd1, by rw [q1]; rfl, fun v hv => ?_, q3, ?_, q5⟩
        · rcases List.mem_cons.mp hv with rfl | hv
          · exact hc
          · exact q2 v hv
        · rw [q4, List.length_cons, show k + 1 + pre.length = k + (pre.length + 1) by omega]
    have tail : ∀ o : Bool, o = !decide (t_num t ∈ nums) → wp (M_next_b49 n (M_next_L3 n f) f (i s) (i p) (i k) (b01 o) σ) (fun q => lvF (p + 1) σ q.2 ∧ ((q.1 = i ts.length ∧ ∀ u ∈ t :: m1, a_cand (i s) gs nums bd u = none) ∨ ∃ pre u post bd1, t :: m1 = pre ++ u :: post ∧ (∀ u ∈ pre, a_cand (i s) gs nums bd u = none) ∧ a_cand (i s) gs nums bd u = some bd1 ∧ q.1 = i (k + pre.length) ∧ mbd q.2 (p + 1) bd1)) := by
      intro o ho
      unfold M_next_b49 M_next_b84
      cases o with
      | false =>
        rw [if_pos (show b01 false = 0 from rfl)]
        have hm : t_num t ∈ nums := by
          by_cases q : t_num t ∈ nums
          · exact q
          · rw [decide_eq_false q] at ho; cases ho
        exact go σ lvF.rf (by unfold a_cand; rw [if_neg (fun q => q.2 hm)])
      | true =>
        have hm : t_num t ∉ nums := fun q => by rw [decide_eq_true q] at ho; cases ho
        rw [if_neg (show ¬ b01 true = 0 by decide), M_sees_s hT (by omega) (hts.2 t htm).1 hn, some_bind]
        dsimp only
        cases hse : a_sees (i s) t with
        | false =>
          rw [if_pos (show b01 false = 0 from rfl)]
          exact go σ lvF.rf (by unfold a_cand; rw [hse, if_neg (fun q => by cases q.1)])
        | true =>
          rw [if_neg (show ¬ b01 true = 0 by decide), l3, i_mul, i_add]
          have hca : a_cand (i s) gs nums bd t = a_fits gs (t_fs t) nums bd := by unfold a_cand; rw [if_pos ⟨hse, hm⟩]
          refine wp_bind (M_fits_s (n := n) (f := f) (by omega) (by omega) hp hok (hts.2 t htm).2 hnl (by omega) hG hT hA hB hb) (fun q hq => ?_)
          obtain ⟨q1, q2⟩ := q
          obtain ⟨e1, e2, e3⟩ := hq
          replace e1 : q1 = _ := e1
          subst e1
          dsimp only at e2 e3 ⊢
          cases hfit : a_fits gs (t_fs t) nums bd with
          | none =>
            rw [if_pos (show b01 (none : Option Bd).isSome = 0 from rfl)]
            exact go q2 e2 (hca.trans hfit)
          | some bd1 =>
            rw [if_neg (show ¬ b01 (some bd1).isSome = 0 from (by decide : ¬ b01 true = 0)), wp_some]
            exact ⟨e2, Or.inr ⟨[], t, m1, bd1, rfl, (show ∀ u ∈ ([] : List Tp), a_cand (i s) gs nums bd u = none from fun u hu => by cases hu), hca.trans hfit, rfl, e3 bd1 hfit⟩⟩
    show wp (M_next_b3 n (M_next_L3 n f) f (i s) (i p) (i k) σ) _
    unfold M_next_b3 M_next_b28 M_next_b44 M_next_b48
    rw [hB.1, if_neg (by rw [i_le (by omega) (by omega)]; omega), if_pos (show q_in 0 3 = true by decide), if_pos (show q_in 1 3 = true by decide), show (0 : Int32).toNatClampNeg = 0 from rfl, show (1 : Int32).toNatClampNeg = 1 from rfl]
    rcases nums3 (show nums.length < 3 by omega) with hnn | ⟨a, hnn⟩ | ⟨a, b, hnn⟩
    · obtain rfl : p = 0 := by rw [← hnl, hnn]; rfl
      rw [if_pos (show i 0 < 1 by decide), if_pos (show i 0 < 2 by decide)]
      exact tail true (by rw [hnn]; simp)
    · obtain rfl : p = 1 := by rw [← hnl, hnn]; rfl
      rw [if_neg (show ¬ i 1 < 1 by decide), if_pos (show i 1 < 2 by decide)]
      have h0 := at_eq hts.1 h20 hA (j := 0) (m := a) (by rw [hnn]; rfl) d1
      by_cases e : σ.2.1 54 0 0 = i k
      · rw [if_pos e]
        rw [h0] at e
        exact tail false (by rw [hnn]; simp [e])
      · rw [if_neg e]
        rw [h0] at e
        exact tail true (by rw [hnn]; simp [e])
    · obtain rfl : p = 2 := by rw [← hnl, hnn]; rfl
      rw [if_neg (show ¬ i 2 < 1 by decide), if_neg (show ¬ i 2 < 2 by decide)]
      have h0 := at_eq hts.1 h20 hA (j := 0) (m := a) (by rw [hnn]; rfl) d1
      have h1 := at_eq hts.1 h20 hA (j := 1) (m := b) (by rw [hnn]; rfl) d1
      by_cases e : σ.2.1 54 0 0 = i k
      · rw [if_pos e]
        rw [h0] at e
        exact tail false (by rw [hnn]; simp [e])
      · rw [if_neg e]
        rw [h0] at e
        by_cases e2 : σ.2.1 54 0 1 = i k
        · rw [if_pos e2]
          rw [h1] at e2
          exact tail false (by rw [hnn]; simp [e2])
        · rw [if_neg e2]
          rw [h1] at e2
          exact tail true (by rw [hnn]; simp [e, e2])
