/-! The reference's calls: order, collect. Ours. -/
theorem M_ready_L {n s j : Nat} {pt : Nat → List Fm} {σ : J} (hs : s < 4) (hj : j ≤ 3) (hG : ∀ p, p < 3 → mG σ (3 * s + p) (pt p)) (hok : ∀ p, p < 3 → (pt p).length ≤ 4) :
    ∀ (m p f : Nat) (b : Bool), p + m = j → m < f → M_ready_L26 n f (i s) (i j) (b01 b) (i p) σ = some (b01 (b && (List.range' p m).all fun p => !(pt p).isEmpty), σ) := by
  intro m
  induction m with
  | zero =>
    intro p f b hp hf
    obtain ⟨f, rfl⟩ : ∃ g, f = g + 1 := ⟨f - 1, by omega⟩
    unfold M_ready_L26 M_ready_b26 M_ready_b62
    rw [if_pos (show i j ≤ i p by rw [i_le (by omega) (by omega)]; omega), if_pos b01_a]
    show some (b01 b, σ) = some (b01 (b && true), σ)
    rw [Bool.and_true]
  | succ m ih =>
    intro p f b hp hf
    obtain ⟨f, rfl⟩ : ∃ g, f = g + 1 := ⟨f - 1, by omega⟩
    have hl := hok p (by omega)
    unfold M_ready_L26 M_ready_b26 M_ready_b62 M_ready_b55
    rw [if_neg (show ¬ i j ≤ i p by rw [i_le (by omega) (by omega)]; omega)]
    cases b with
    | false =>
      rw [if_pos (show b01 false = 0 from rfl), if_pos b01_a]
      rfl
    | true =>
      have he : 3 * i s + i p = i (3 * s + p) := by rw [l3, i_mul, i_add]
      rw [if_neg (show ¬ b01 true = 0 by decide), he, if_pos (show q_in (i (3 * s + p)) 18 = true by rw [i_in (by omega)]; omega), i_n (by omega), (hG p (by omega)).1, List.range'_succ, List.all_cons, Bool.true_and, show i p + 1 = i (p + 1) from i_add p 1]
      cases hpt : pt p with
      | nil =>
        rw [if_pos (show i ([] : List Fm).length ≤ 0 by decide)]
        exact ih (p + 1) f false (by omega) (by omega)
      | cons a r =>
        rw [hpt, List.length_cons] at hl
        rw [if_neg (show ¬ i (a :: r).length ≤ 0 by rw [List.length_cons, l0, i_le (by omega) (by decide)]; omega)]
        exact ih (p + 1) f true (by omega) (by omega)
theorem M_ready_0 {n f : Nat} {x y : Int32} {σ : J} (hf : 1 ≤ f) : M_ready_L26 n f x y 0 0 σ = some (0, σ) := by
  obtain ⟨f, rfl⟩ : ∃ g, f = g + 1 := ⟨f - 1, by omega⟩
  unfold M_ready_L26 M_ready_b26 M_ready_b62
  by_cases h : y ≤ 0
  · rw [if_pos h]; rfl
  · rw [if_neg h, if_pos rfl]; rfl
theorem M_ready_s {n f : Nat} {x y : Int32} {now lat : Nat} {ts : List Tp} {line : List Nat} {dl : Nat → Nat} {dr : Nat → List FV} {pt : Nat → Nat → List Fm} {la : Nat → Int32} {jo : Nat → Nat} {tk : Nat → Bool} {fn : Nat → Fq} {os : List Od} {σ : J} (hA : mA n σ (now, lat, ts, line, dl, dr, pt, la, jo, tk, fn, os)) (hw : wfA n (now, lat, ts, line, dl, dr, pt, la, jo, tk, fn, os)) (hf : 10 ≤ f) : M_ready n f x y σ = some (b01 (a_sess n x && a_hasP (pt x.toNatClampNeg) y), σ) := by
  obtain ⟨w1, w2, w3, w4, w5, w6, w7, w8, w9, w10, w11, w12, w13⟩ := hw
  unfold M_ready M_ready_b0 M_ready_b21 M_ready_b22 a_hasP
  rw [M_isSession_s hA.1, some_bind]
  dsimp only
  cases h : a_sess n x with
  | false => rw [if_pos (show b01 false = 0 from rfl), M_ready_0 (by omega)]; rfl
  | true =>
    obtain ⟨s, hs, e1, e2⟩ := sess_i w13 h
    rw [if_neg (show ¬ b01 true = 0 by decide), e2, Bool.true_and]
    have c0 : (0 : Int32).toInt = 0 := rfl
    have c1 : (1 : Int32).toInt = 1 := rfl
    have c3 : (3 : Int32).toInt = 3 := rfl
    have c4 : (4 : Int32).toInt = 4 := rfl
    by_cases h1 : y ≤ 0
    · rw [if_pos h1, M_ready_0 (by omega), decide_eq_false (show ¬ 1 ≤ y by rw [Int32.le_iff_toInt_le] at h1 ⊢; omega), Bool.false_and, Bool.false_and]
      rfl
    · rw [if_neg h1, decide_eq_true (show 1 ≤ y by rw [Int32.le_iff_toInt_le] at h1 ⊢; omega), Bool.true_and]
      by_cases h4 : 4 ≤ y
      · rw [if_pos h4, M_ready_0 (by omega), decide_eq_false (show ¬ y ≤ 3 by rw [Int32.le_iff_toInt_le] at h4 ⊢; omega), Bool.false_and]
        rfl
      · have h3 : y ≤ 3 := by rw [Int32.le_iff_toInt_le] at h4 ⊢; omega
        have h0 : 0 ≤ y := by rw [Int32.le_iff_toInt_le] at h1 ⊢; omega
        have h5 := h3
        rw [i_of h0, l3, i_le (i_cl y) (by decide)] at h5
        rw [if_neg h4, decide_eq_true h3, Bool.true_and]
        have := M_ready_L (n := n) (σ := σ) (pt := pt s) (show s < 4 by omega) h5 (fun p hp => hA.2.2.2.2.2.2.2.1 s p hs hp) (fun p hp => (w6 s p hs hp).1) y.toNatClampNeg 0 f true (by omega) (by omega)
        rw [← i_of h0] at this
        rw [List.range_eq_range', e1]
        exact this
theorem M_order_cp {n s r : Nat} (hs : s < 4) (hr : 12 ≤ r ∧ r < 18) : ∀ (m q f : Nat) (σ : J), q + m = 4 → m < f → wp (M_order_L76 n f (i s) (i r) (i q) σ) (fun o => o.1 = σ.1 24 30 0 + 1 - 1 ∧ o.2.1 24 30 0 = σ.1 24 30 0 + 1 ∧ mf (fun k => 39 ≤ k ∧ k ≤ 41) (fun f => f = 30) σ o.2 ∧ ∀ y, o.2.2.1 39 0 y = (if 4 * r + q ≤ y ∧ y < 4 * r + 4 then σ.2.1 39 0 (12 * s + (y - 4 * r)) else σ.2.1 39 0 y) ∧ o.2.2.2.1 40 0 y = (if 4 * r + q ≤ y ∧ y < 4 * r + 4 then σ.2.2.1 40 0 (12 * s + (y - 4 * r)) else σ.2.2.1 40 0 y) ∧ o.2.2.2.1 41 0 y = (if 4 * r + q ≤ y ∧ y < 4 * r + 4 then σ.2.2.1 41 0 (12 * s + (y - 4 * r)) else σ.2.2.1 41 0 y)) := by
  intro m
  induction m with
  | zero =>
    intro q f σ hq hf
    obtain ⟨f, rfl⟩ : ∃ g, f = g + 1 := ⟨f - 1, by omega⟩
    show wp (M_order_b76 n (M_order_L76 n f) f (i s) (i r) (i q) σ) _
    unfold M_order_b76
    simp only [bs_eq]
    refine wp_ite (fun _ => ?_) (fun h => absurd (show 4 ≤ i q by rw [l4, i_le (by decide) (by omega)]; omega) h)
    refine wp_s ⟨rfl, rfl, mf.rf.sI rfl, fun y => ?_⟩
    rw [if_neg (by omega), if_neg (by omega), if_neg (by omega)]
    exact ⟨rfl, rfl, rfl⟩
  | succ m ih =>
    intro q f σ hq hf
    obtain ⟨f, rfl⟩ : ∃ g, f = g + 1 := ⟨f - 1, by omega⟩
    show wp (M_order_b76 n (M_order_L76 n f) f (i s) (i r) (i q) σ) _
    unfold M_order_b76
    simp only [bs_eq]
    refine wp_ite (fun h => absurd h (show ¬ 4 ≤ i q by rw [l4, i_le (by decide) (by omega)]; omega)) (fun _ => ?_)
    have ha : 12 * i s + i q = i (12 * s + q) := by rw [l12, i_mul, i_add]
    have hb : 4 * i r + i q = i (4 * r + q) := by rw [l4, i_mul, i_add]
    have ha7 : q_in (12 * i s + i q) 72 = true := by rw [ha, i_in (by omega)]; omega
    have hb7 : q_in (4 * i r + i q) 72 = true := by rw [hb, i_in (by omega)]; omega
    refine wp_ite (fun _ => ?_) (fun h => absurd (ha7) h)
    refine wp_ite (fun _ => ?_) (fun h => absurd (hb7) h)
    refine wp_ite (fun _ => ?_) (fun h => absurd (ha7) h)
    refine wp_ite (fun _ => ?_) (fun h => absurd (hb7) h)
    refine wp_ite (fun _ => ?_) (fun h => absurd (ha7) h)
    refine wp_ite (fun _ => ?_) (fun h => absurd (hb7) h)
    show wp (M_order_L76 n f (i s) (i r) (i q + 1) (q_sL (q_sL (q_sA σ 39 0 (upd (σ.2.1 39 0) (4 * i r + i q).toNatClampNeg (σ.2.1 39 0 (12 * i s + i q).toNatClampNeg))) 40 0 (vp_updL (σ.2.2.1 40 0) (4 * i r + i q).toNatClampNeg (σ.2.2.1 40 0 (12 * i s + i q).toNatClampNeg))) 41 0 (vp_updL (σ.2.2.1 41 0) (4 * i r + i q).toNatClampNeg (σ.2.2.1 41 0 (12 * i s + i q).toNatClampNeg)))) _
    rw [ha, hb, i_n (by omega), i_n (by omega), show i q + 1 = i (q + 1) from i_add q 1]
    refine wp_mono (ih (q + 1) f _ (by omega) (by omega)) (fun o ho => ⟨ho.1, ho.2.1, (((mf.rf.sA (by omega)).sL (by omega)).sL (by omega)).tr ho.2.2.1, fun y => ?_⟩)
    obtain ⟨k1, k2, k3⟩ := ho.2.2.2 y
    have key : ∀ {α : Type} (g : Nat → α), (if 4 * r + (q + 1) ≤ y ∧ y < 4 * r + 4 then (if 12 * s + (y - 4 * r) = 4 * r + q then g (12 * s + q) else g (12 * s + (y - 4 * r))) else (if y = 4 * r + q then g (12 * s + q) else g y)) = if 4 * r + q ≤ y ∧ y < 4 * r + 4 then g (12 * s + (y - 4 * r)) else g y := by
      intro α g
      by_cases c : 4 * r + q ≤ y ∧ y < 4 * r + 4
      · rw [if_pos c]
        by_cases c2 : y = 4 * r + q
        · rw [if_neg (by omega), if_pos c2, show y - 4 * r = q by omega]
        · rw [if_pos (by omega), if_neg (by omega)]
      · rw [if_neg c, if_neg (by omega), if_neg (by omega)]
    exact ⟨k1.trans (key (σ.2.1 39 0)), k2.trans (key (σ.2.2.1 40 0)), k3.trans (key (σ.2.2.1 41 0))⟩
theorem M_order_s {n f : Nat} {x : Int32} {a : Sq} {σ : J} (hA : mA n σ a) (hw : wfA n a) (hf : 10 ≤ f) : wp (M_order n f x σ) (fun q => mR id (o_order n x a).1 q ∧ mA n q.2 (o_order n x a).2) := by
  obtain ⟨now, lat, ts, line, dl, dr, pt, la, jo, tk, fn, os⟩ := a
  have hw' := hw
  obtain ⟨w1, w2, w3, w4, w5, w6, w7, w8, w9, w10, w11, w12, w13⟩ := hw'
  unfold M_order M_order_b0 M_order_b36 M_order_b40 o_order
  simp only [bs_eq]
  refine wp_e (M_ready_s hA hw hf) ?_
  refine wp_e (M_first_a hA hw hf) ?_
  cases hfi : a_first n line x with
  | inr e =>
    have he := e12 (first_e hfi)
    refine wp_ite (fun h => absurd h (show ¬ i e = 0 from i_ne0 he)) (fun _ => ?_)
    refine wp_ite (fun h => absurd h (show ¬ i e ≤ 0 from i_nle0 he)) (fun _ => ?_)
    exact wp_s ⟨rfl, mA_code (mA_code hA)⟩
  | inl s =>
    obtain ⟨hs, hxs, -⟩ := first_i w13 hfi
    have hxn : x.toNatClampNeg = s := by rw [hxs, i_n (by omega)]
    have hse : a_sess n x = true := by
      cases q : a_sess n x with
      | true => rfl
      | false => exact absurd hfi (first_no q s)
    dsimp only
    rw [hse, hxn, hasP_1, isE, Bool.true_and]
    have hO := hA.2.2.2.2.2.2.2.2.2.2.2.1
    have hO1 : σ.1 24 30 0 = i os.length := hO.1
    by_cases h2 : pt s 0 ≠ []
    · rw [decide_eq_true h2, if_pos h2]
      refine wp_ite (fun _ => ?_) (fun h => absurd (show i 0 = 0 from rfl) h)
      by_cases hl6 : os.length < 6
      · rw [if_pos hl6]
        refine wp_ite (fun h => absurd h (show ¬ σ.1 24 30 0 = 6 by rw [hO1, l6, i_eq (by omega) (by decide)]; omega)) (fun _ => ?_)
        refine wp_ite (fun _ => ?_) (fun h => absurd (show i 0 ≤ 0 by decide) h)
        have he : 3 * x = i (3 * s) := by rw [hxs, l3, i_mul]
        have he2 : 12 + σ.1 24 30 0 = i (12 + os.length) := by rw [hO1, l12, i_add]
        refine wp_ite (fun _ => ?_) (fun h => absurd (show q_in (3 * x) 18 = true by rw [he, i_in (by omega)]; omega) h)
        refine wp_ite (fun _ => ?_) (fun h => absurd (show q_in (12 + σ.1 24 30 0) 18 = true by rw [he2, i_in (by omega)]; omega) h)
        show wp (M_order_L76 n f x (12 + σ.1 24 30 0) 0 (q_sA (q_sI (q_sI σ 24 0 0 (i 0)) 24 0 0 (i 0)) 38 0 (upd (σ.2.1 38 0) (12 + σ.1 24 30 0).toNatClampNeg (σ.2.1 38 0 (3 * x).toNatClampNeg)))) _
        rw [he, he2, i_n (by omega), i_n (by omega), hxs]
        have hA2 := mA_code (v := i 0) (mA_code (v := i 0) hA)
        refine wp_mono (M_order_cp (n := n) (s := s) (r := 12 + os.length) (by omega) (by omega) 4 0 f _ rfl (by omega)) (fun o ho => ?_)
        obtain ⟨k1, k2, k3, k4⟩ := ho
        have k1' : o.1 = σ.1 24 30 0 + 1 - 1 := k1
        have k2' : o.2.1 24 30 0 = σ.1 24 30 0 + 1 := k2
        rw [hO1, l1, i_add] at k1' k2'
        rw [i_sub (by omega)] at k1'
        have hf : mf (fun k => 38 ≤ k ∧ k ≤ 41) (fun f => f = 30) (q_sI (q_sI σ 24 0 0 (i 0)) 24 0 0 (i 0)) o.2 := (mf.rf.sA (by omega)).tr (k3.up (fun k q => by omega) (fun f q => q))
        have h38 : ∀ y, o.2.2.1 38 0 y = if y = 12 + os.length then σ.2.1 38 0 (3 * s) else σ.2.1 38 0 y := fun y => by rw [(k3.1 38 (by omega)).1]; rfl
        have hco : ∀ y, (y < 4 * (12 + os.length) ∨ 4 * (12 + os.length) + 4 ≤ y) → o.2.2.1 39 0 y = σ.2.1 39 0 y ∧ o.2.2.2.1 40 0 y = σ.2.2.1 40 0 y ∧ o.2.2.2.1 41 0 y = σ.2.2.1 41 0 y := fun y hy => by
          obtain ⟨z1, z2, z3⟩ := k4 y
          rw [z1, z2, z3, if_neg (by omega), if_neg (by omega), if_neg (by omega)]
          exact ⟨rfl, rfl, rfl⟩
        have h38o : ∀ y, y ≠ 12 + os.length → o.2.2.1 38 0 y = σ.2.1 38 0 y := fun y hy => by rw [h38 y, if_neg hy]
        have hG0 := hA.2.2.2.2.2.2.2.1 s 0 hs (by decide)
        refine ⟨⟨k1', hf.2 0 (by omega)⟩, ?_⟩
        obtain ⟨h1, h2, h3, h4, h5, h6, h7, h8, h9, h10, h11, h12, h13⟩ := hA2
        refine ⟨by rw [hf.2 13 (by omega)]; exact h1, by rw [hf.2 3 (by omega)]; exact h2, by rw [hf.2 2 (by omega)]; exact h3, h4.fr hf (fun k _ _ => (by omega)) (by omega), h5.fr hf (by omega) (by omega), fun q hq => by rw [(hf.1 34 (by omega)).1]; exact h6 q hq, fun q hq => by rw [(hf.1 35 (by omega)).1, (hf.1 36 (by omega)).1, (hf.1 37 (by omega)).2]; exact h7 q hq, fun q p hq hp => mG_o (h8 q p hq hp) (by omega) (w6 q p hq hp).1 h38o hco, fun q hq => by rw [(hf.1 45 (by omega)).1]; exact h9 q hq, fun q hq => by rw [(hf.1 43 (by omega)).1, (hf.1 44 (by omega)).1]; exact h10 q hq, fun q hq => (h11 q hq).fr hf (by omega) (by omega) (by omega), ⟨by rw [k2', List.length_append]; rfl, fun j u hu => ?_, fun j hj hj6 => ?_⟩, fun v hv => by rw [(hf.1 52 (by omega)).1]; exact h13 v hv⟩
        · by_cases ej : j = os.length
          · subst ej
            rw [List.getElem?_append_right (Nat.le_refl _), Nat.sub_self] at hu
            cases hu
            obtain ⟨z1, z2⟩ := hO.2.2 os.length (Nat.le_refl _) hl6
            refine ⟨⟨?_, fun q g hg => ?_⟩, ?_, (fun q g hg => nomatch hg), ?_⟩
            · rw [h38, if_pos rfl]; exact hG0.1
            · have hq4 := (List.getElem?_eq_some_iff.mp hg).1
              have hl4 := (w6 s 0 hs (by decide)).1
              obtain ⟨y1, y2, y3⟩ := k4 (4 * (12 + os.length) + q)
              show o.2.2.1 39 0 (4 * (12 + os.length) + q) = _ ∧ o.2.2.2.1 40 0 (4 * (12 + os.length) + q) = _ ∧ o.2.2.2.1 41 0 (4 * (12 + os.length) + q) = _
              replace hq4 : q < (pt s 0).length := hq4
              rw [y1, y2, y3, if_pos (by omega), if_pos (by omega), if_pos (by omega), show 12 * s + (4 * (12 + os.length) + q - 4 * (12 + os.length)) = 4 * (3 * s + 0) + q by omega]
              exact hG0.2 q g hg
            · rw [(hf.1 49 (by omega)).1]; exact z1
            · rw [(hf.1 51 (by omega)).1]; exact z2
          · have hjl := (List.getElem?_eq_some_iff.mp hu).1
            rw [List.length_append] at hjl
            replace hjl : j < os.length + 1 := hjl
            rw [List.getElem?_append_left (by omega)] at hu
            have := h12.2.1 j u hu
            unfold mO at this ⊢
            rw [(hf.1 49 (by omega)).1, (hf.1 50 (by omega)).1, (hf.1 51 (by omega)).1]
            exact ⟨mG_o this.1 (by omega) (w9 u (List.mem_of_getElem? hu)).1.1 h38o hco, this.2⟩
        · rw [List.length_append] at hj
          replace hj : os.length + 1 ≤ j := hj
          rw [(hf.1 49 (by omega)).1, (hf.1 51 (by omega)).1]
          exact h12.2.2 j (by omega) hj6
      · rw [if_neg hl6]
        refine wp_ite (fun _ => ?_) (fun h => absurd (show σ.1 24 30 0 = 6 by rw [hO1, l6, i_eq (by omega) (by decide)]; omega) h)
        refine wp_ite (fun h => absurd h (show ¬ i 4 ≤ 0 by decide)) (fun _ => ?_)
        exact wp_s ⟨rfl, mA_code (mA_code hA)⟩
    · rw [decide_eq_false h2, if_neg h2]
      refine wp_ite (fun h => absurd h (show ¬ i 3 = 0 by decide)) (fun _ => ?_)
      refine wp_ite (fun h => absurd h (show ¬ i 3 ≤ 0 by decide)) (fun _ => ?_)
      exact wp_s ⟨rfl, mA_code (mA_code hA)⟩
theorem M_collect_L {n k c : Nat} {v : Int32} (hk : k < 6) (hc : c ≤ 4) : ∀ (m q f : Nat) (σ : J), q + m = c → m < f → σ.2.1 49 0 k = i c → wp (M_collect_L78 n f (i k) v (i (5 * k + q)) σ) (fun o => o.1 = v ∧ mf (fun x => x = 50) (fun _ => False) σ o.2 ∧ ∀ y, o.2.2.1 50 0 y = if 5 * k + q ≤ y ∧ y < 5 * k + c then σ.2.1 50 0 (y + 1) else σ.2.1 50 0 y) := by
  intro m
  induction m with
  | zero =>
    intro q f σ hq hf h49
    obtain ⟨f, rfl⟩ : ∃ g, f = g + 1 := ⟨f - 1, by omega⟩
    show wp (M_collect_b78 n (M_collect_L78 n f) f (i k) v (i (5 * k + q)) σ) _
    unfold M_collect_b78
    simp only [bs_eq]
    refine wp_ite (fun _ => ?_) (fun h => absurd (show q_in (i k) 6 = true by rw [i_in (by omega)]; omega) h)
    refine wp_ite (fun _ => ?_) (fun h => absurd (show 5 * i k + σ.2.1 49 0 (i k).toNatClampNeg ≤ i (5 * k + q) by rw [i_n (by omega), h49, l5, i_mul, i_add, i_le (by omega) (by omega)]; omega) h)
    exact wp_s ⟨rfl, mf.rf, fun y => by rw [if_neg (by omega)]⟩
  | succ m ih =>
    intro q f σ hq hf h49
    obtain ⟨f, rfl⟩ : ∃ g, f = g + 1 := ⟨f - 1, by omega⟩
    show wp (M_collect_b78 n (M_collect_L78 n f) f (i k) v (i (5 * k + q)) σ) _
    unfold M_collect_b78
    simp only [bs_eq]
    have h1 : i (5 * k + q) + 1 = i (5 * k + (q + 1)) := i_add _ 1
    refine wp_ite (fun _ => ?_) (fun h => absurd (show q_in (i k) 6 = true by rw [i_in (by omega)]; omega) h)
    refine wp_ite (fun h => absurd h (show ¬ 5 * i k + σ.2.1 49 0 (i k).toNatClampNeg ≤ i (5 * k + q) by rw [i_n (by omega), h49, l5, i_mul, i_add, i_le (by omega) (by omega)]; omega)) (fun _ => ?_)
    refine wp_ite (fun _ => ?_) (fun h => absurd (show q_in (i (5 * k + q) + 1) 30 = true by rw [h1, i_in (by omega)]; omega) h)
    refine wp_ite (fun _ => ?_) (fun h => absurd (show q_in (i (5 * k + q)) 30 = true by rw [i_in (by omega)]; omega) h)
    rw [h1, i_n (by omega), i_n (by omega)]
    refine wp_mono (ih (q + 1) f _ (by omega) (by omega) h49) (fun o ho => ⟨ho.1, (mf.rf.sA (K := fun x => x = 50) rfl).tr ho.2.1, fun y => ?_⟩)
    rw [ho.2.2 y]
    show (if 5 * k + (q + 1) ≤ y ∧ y < 5 * k + c then upd (σ.2.1 50 0) (5 * k + q) (σ.2.1 50 0 (5 * k + (q + 1))) (y + 1) else upd (σ.2.1 50 0) (5 * k + q) (σ.2.1 50 0 (5 * k + (q + 1))) y) = _
    by_cases c1 : 5 * k + q ≤ y ∧ y < 5 * k + c
    · rw [if_pos c1]
      by_cases c2 : y = 5 * k + q
      · rw [if_neg (by omega), c2, upd_at]; rfl
      · rw [if_pos (by omega), upd_ne (by omega)]
    · rw [if_neg c1, if_neg (by omega), upd_ne (by omega)]
theorem mid_of {α : Type} {l : List α} {k : Nat} {x : α} (h : l[k]? = some x) : ∃ pre post, l = pre ++ x :: post ∧ pre.length = k := by
  have hk := (List.getElem?_eq_some_iff.mp h).1
  refine ⟨l.take k, l.drop (k + 1), ?_, by rw [List.length_take]; omega⟩
  have := (List.getElem?_eq_some_iff.mp h).2
  rw [← this, ← List.drop_eq_getElem_cons hk, List.take_append_drop]
theorem M_collect_s {n f : Nat} {x : Int32} {a : Sq} {σ : J} (hA : mA n σ a) (hw : wfA n a) (hf : 10 ≤ f) : wp (M_collect n f x σ) (fun q => mR id (o_collect x a).1 q ∧ mA n q.2 (o_collect x a).2) := by
  obtain ⟨now, lat, ts, line, dl, dr, pt, la, jo, tk, fn, os⟩ := a
  have hw' := hw
  obtain ⟨w1, w2, w3, w4, w5, w6, w7, w8, w9, w10, w11, w12, w13⟩ := hw'
  unfold M_collect M_collect_b0 M_collect_b17 M_collect_b18 M_collect_b54 o_collect
  simp only [bs_eq]
  have hO := hA.2.2.2.2.2.2.2.2.2.2.2.1
  have hO1 : σ.1 24 30 0 = i os.length := hO.1
  have no : ∀ v, wp (if i 1 ≤ 0 then v else some ((0 : Int32), q_sI σ 24 0 0 1)) (fun q => mR id (.inr 1) q ∧ mA n q.2 (now, lat, ts, line, dl, dr, pt, la, jo, tk, fn, os)) := fun v => by
    refine wp_ite (fun h => absurd h (show ¬ i 1 ≤ 0 by decide)) (fun _ => ?_)
    exact wp_s ⟨rfl, mA_code hA⟩
  by_cases h0 : 0 ≤ x
  · obtain ⟨k, hk, e1, e2⟩ := w_i h0
    rw [if_pos h0, e2]
    refine wp_ite (fun h => absurd h (nlt_of_le h0)) (fun _ => ?_)
    by_cases h1 : os.length ≤ k
    · rw [List.getElem?_eq_none h1]
      refine wp_ite (fun _ => ?_) (fun h => absurd (show σ.1 24 30 0 ≤ x by rw [hO1, e1, i_le (by omega) hk]; exact h1) h)
      exact no _
    · obtain ⟨o, ho⟩ : ∃ o, os[k]? = some o := ⟨_, List.getElem?_eq_getElem (by omega)⟩
      obtain ⟨pre, post, hsp, hpl⟩ := mid_of ho
      rw [ho]
      dsimp only
      refine wp_ite (fun h => absurd h (show ¬ σ.1 24 30 0 ≤ x by rw [hO1, e1, i_le (by omega) hk]; exact h1)) (fun _ => ?_)
      refine wp_ite (fun _ => ?_) (fun h => absurd (show i 0 ≤ 0 by decide) h)
      have hi6 : q_in x 6 = true := by rw [e1, i_in (by omega)]; omega
      refine wp_ite (fun _ => ?_) (fun h => absurd (hi6) h)
      have hOk := hO.2.1 k o ho
      obtain ⟨o1, o2, o3, o4⟩ := hOk
      have hA2 := mA_code (v := 0) hA
      have hA2' := hA2
      obtain ⟨h1, h2, h3, h4, h5, h6, h7, h8, h9, h10, h11, h12, h13⟩ := hA2'
      have hrl := (w9 o (List.mem_of_getElem? ho)).2
      obtain ⟨g, rs, ov⟩ := o
      cases rs with
      | nil =>
        have hset : os.set k (a_collect (g, [], ov)).2 = os := by
          show os.set k (g, [], ov) = os
          rw [hsp, ← hpl, set_mid]
        rw [hset]
        refine wp_ite (fun _ => ?_) (fun h => absurd (show σ.2.1 49 0 k = 0 from o2) h)
        refine wp_ite (fun _ => ?_) (fun h => absurd (hi6) h)
        cases ov with
        | false =>
          refine wp_ite (fun _ => ?_) (fun h => absurd (show σ.2.1 51 0 k = 0 from o4) h)
          exact wp_s ⟨⟨rfl, rfl⟩, hA2⟩
        | true =>
          refine wp_ite (fun h => absurd h (show ¬ σ.2.1 51 0 k = 0 from fun q => absurd (o4.symm.trans q) (show ¬ b01 true = 0 by decide))) (fun _ => ?_)
          exact wp_s ⟨⟨rfl, rfl⟩, hA2⟩
      | cons m rs =>
        replace hrl : rs.length + 1 ≤ 5 := hrl
        replace o2 : σ.2.1 49 0 k = i (rs.length + 1) := o2
        refine wp_ite (fun h => absurd h (show ¬ σ.2.1 49 0 k = 0 by rw [o2, l0, i_eq (by omega) (by decide)]; omega)) (fun _ => ?_)
        have he : 5 * x = i (5 * k) := by rw [e1, l5, i_mul]
        refine wp_ite (fun _ => ?_) (fun h => absurd (show q_in (5 * x) 30 = true by rw [he, i_in (by omega)]; omega) h)
        refine wp_ite (fun _ => ?_) (fun h => absurd (hi6) h)
        refine wp_ite (fun _ => ?_) (fun h => absurd (hi6) h)
        show wp (M_collect_L78 n f x (σ.2.1 50 0 (5 * x).toNatClampNeg) (5 * x) (q_sA (q_sI σ 24 0 0 0) 49 0 (upd (σ.2.1 49 0) k (σ.2.1 49 0 k - 1)))) _
        have hv : σ.2.1 50 0 (5 * k) = m := o3 0 m rfl
        rw [he, i_n (by omega), o2, l1, i_sub (by omega), hv, Nat.add_sub_cancel, e1]
        refine wp_mono (M_collect_L (n := n) (k := k) (c := rs.length) (v := m) (by omega) (by omega) rs.length 0 f (q_sA (q_sI σ 24 0 0 0) 49 0 (upd (σ.2.1 49 0) k (i rs.length))) (by omega) (by omega) upd_at) (fun q hq => ?_)
        obtain ⟨q1, q2, q3⟩ := hq
        have hf : mf (fun x => x = 49 ∨ x = 50) (fun _ => False) (q_sI σ 24 0 0 0) q.2 := (mf.rf.sA (Or.inl rfl)).tr (q2.up (fun k q => Or.inr q) (fun f q => q))
        refine ⟨⟨q1, hf.2 0 (fun q => q)⟩, ⟨by rw [hf.2 13 (fun q => q)]; exact h1, by rw [hf.2 3 (fun q => q)]; exact h2, by rw [hf.2 2 (fun q => q)]; exact h3, h4.fr hf (fun k _ _ => by omega) (fun q => q), h5.fr hf (by omega) (fun q => q), fun q hq => by rw [(hf.1 34 (by omega)).1]; exact h6 q hq, fun q hq => by rw [(hf.1 35 (by omega)).1, (hf.1 36 (by omega)).1, (hf.1 37 (by omega)).2]; exact h7 q hq, fun q p hq hp => (h8 q p hq hp).fr hf (fun k _ _ => (by omega)), fun q hq => by rw [(hf.1 45 (by omega)).1]; exact h9 q hq, fun q hq => by rw [(hf.1 43 (by omega)).1, (hf.1 44 (by omega)).1]; exact h10 q hq, fun q hq => (h11 q hq).fr hf (by omega) (by omega) (by omega), ?_, fun v hv => by rw [(hf.1 52 (by omega)).1]; exact h13 v hv⟩⟩
        rw [hsp, ← hpl, set_mid]
        rw [hsp] at h12
        rw [← hpl] at q3 q2 o1 o2 o3 o4
        have e49 : q.2.2.1 49 0 = upd (σ.2.1 49 0) pre.length (i rs.length) := by rw [(q2.1 49 (by omega)).1]; rfl
        refine mOs_set h12 (fun z hz => (w9 z (by rw [hsp]; exact hz)).2) hf (fun k _ _ => by omega) (fun q => q) (fun y hy => by rw [e49, upd_ne hy]; rfl) (fun y hy => by rw [q3 y, if_neg (by omega)]; rfl) (fun y hy => by rw [(hf.1 51 (by omega)).1]) ⟨o1.fr (K := fun x => x = 49 ∨ x = 50) (F := fun f => f = 0) ((mf.rf.sI (F := fun f => f = 0) (v := 0) rfl).tr (hf.up (fun k q => q) (fun f q => q.elim))) (fun k _ _ => by omega), ?_, fun j y hy => ?_, ?_⟩
        · rw [e49, upd_at]; rfl
        · have hjl := (List.getElem?_eq_some_iff.mp hy).1
          replace hjl : j < rs.length := hjl
          show q.2.2.1 50 0 (5 * pre.length + j) = y
          rw [q3, if_pos (by omega)]
          exact o3 (j + 1) y hy
        · rw [(hf.1 51 (by omega)).1]; exact o4
  · rw [if_neg h0]
    refine wp_ite (fun _ => ?_) (fun h => absurd (i_neg h0) h)
    exact no _
