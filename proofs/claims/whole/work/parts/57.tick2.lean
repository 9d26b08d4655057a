/-! The class's clock: its loop. Ours. -/
theorem a_tick_none {now : Nat} {ts : List Tp} {line : List Nat} {dl : Nat → Nat} {la : Nat → Int32} {c : Nat} {fr : Bool} (h : ts.find? (a_over now) = none) : ∀ K, a_tick now K ts line dl la c fr = (ts, line, dl, la, c, fr) := by
  intro K
  cases K with
  | zero => rfl
  | succ K =>
    unfold a_tick
    rw [h]
/-- the state behind a tick -/
def a_ticked (a : Sq) (r : List Tp × List Nat × (Nat → Nat) × (Nat → Int32) × Nat × Bool) : Sq := match a with
  | (now, lat, _, _, _, dr, pt, _, jo, tk, fn, os) => (if r.2.2.2.2.2 = true then a_served else id) (now, lat, r.1, r.2.1, r.2.2.1, dr, pt, r.2.2.2.1, jo, tk, fn, os)
def t_ov (now : Nat) (e : Int32) : Bool := !decide (e = 0) && !decide (i now < e)
theorem a_over_t {now e : Nat} {t : Tp} (h : t_end t = i e) (he : e < 2147483648) (hn : now < 2147483648) : a_over now t = t_ov now (t_end t) := by
  unfold a_over t_ov
  rw [h]
  have h1 : decide (i e ≠ i 0) = !decide (i e = 0) := by
    by_cases q : i e = 0
    · rw [decide_eq_true q, decide_eq_false (fun g => g q)]; rfl
    · rw [decide_eq_false q, decide_eq_true (show i e ≠ i 0 from q)]; rfl
  have h2 : decide (i e ≤ i now) = !decide (i now < i e) := by
    by_cases q : now < e
    · rw [decide_eq_true (show i now < i e from by rw [i_lt hn he]; exact q), decide_eq_false (by rw [i_le he hn]; omega)]; rfl
    · rw [decide_eq_false (show ¬ i now < i e from by rw [i_lt hn he]; exact q), decide_eq_true (by rw [i_le he hn]; omega)]; rfl
  rw [h1, h2]
theorem JB_tick_L {n now lat u : Nat} {dr : Nat → List FV} {pt : Nat → Nat → List Fm} {jo : Nat → Nat} {tk : Nat → Bool} {fn : Nat → Fq} {os : List Od} {P : Nat → Nat} (hP : okP P) (hu : u ≤ 20) :
    ∀ (m j K f c : Nat) (frd : Bool) (ts : List Tp) (line : List Nat) (dl : Nat → Nat) (la : Nat → Int32) (σ : J), cA n σ (now, lat, ts, line, dl, dr, pt, la, jo, tk, fn, os) → wfA n (now, lat, ts, line, dl, dr, pt, la, jo, tk, fn, os) → σ.1 2 1 0 = i u → σ.2.2.2 3 0 = P → Rw P σ 0 u ts → j + m = u → m ≤ K → m + 100 ≤ f → (∀ r, r < j → σ.1 4 0 (P r) = i 1 → t_ov now (σ.1 4 2 (P r)) = false) →
      wp (JB_tick_L32 n f (i c) (b01 frd) (i j) σ) (fun q => q.1 = .inl (i (a_tick now K ts line dl la c frd).2.2.2.2.1) ∧ cA n q.2 (a_ticked (now, lat, ts, line, dl, dr, pt, la, jo, tk, fn, os) (a_tick now K ts line dl la c frd)) ∧ wfA n (a_ticked (now, lat, ts, line, dl, dr, pt, la, jo, tk, fn, os) (a_tick now K ts line dl la c frd))) := by
  intro m
  induction m with
  | zero =>
    intro j K f c frd ts line dl la σ hA hw hu1 hP1 hR hj hK hf hno
    obtain ⟨f, rfl⟩ : ∃ g, f = g + 1 := ⟨f - 1, by omega⟩
    have hw' := hw
    obtain ⟨w1, w2, w3, w4, w5, w6, w7, w8, w9, w10, w11, w12, w13⟩ := hw'
    have hnone : ts.find? (a_over now) = none := by
      rw [List.find?_eq_none]
      intro t ht
      obtain ⟨r, -, r2, r3⟩ := Rw_obj hR ht
      obtain ⟨-, ⟨e, e1, e2⟩, -⟩ := w1.2 t ht
      rw [a_over_t e2 (by omega) (by omega), ← r3.2.2.1, hno r (by omega) r3.1]
      decide
    rw [a_tick_none hnone K]
    unfold JB_tick_L32 JB_tick_b32 JB_tick_b102
    rw [hu1, if_pos (by rw [i_le (by omega) (by omega)]; omega)]
    cases frd with
    | false =>
      rw [if_pos (show b01 false = 0 from rfl), wp_some]
      exact ⟨rfl, hA, hw⟩
    | true =>
      rw [if_neg (by decide)]
      refine wp_bind (JB_serveLine_s hA hw (by omega)) (fun τ hτ => ?_)
      rw [wp_some]
      exact ⟨rfl, hτ.1, hτ.2.1⟩
  | succ m ih =>
    intro j K f c frd ts line dl la σ hA hw hu1 hP1 hR hj hK hf hno
    obtain ⟨f, rfl⟩ : ∃ g, f = g + 1 := ⟨f - 1, by omega⟩
    have hw' := hw
    obtain ⟨w1, w2, w3, w4, w5, w6, w7, w8, w9, w10, w11, w12, w13⟩ := hw'
    have hPj : Nat.blt (P j) 20 = true := by rw [blt_eq]; exact hP.1 j (by omega)
    have hin : q_in (i j) 20 = true := by rw [i_in (by omega)]; omega
    unfold JB_tick_L32 JB_tick_b32 JB_tick_b88
    rw [hu1, if_neg (by rw [i_le (by omega) (by omega)]; omega), if_pos hin, i_n (by omega), hP1, if_pos hPj, hA.2.1]
    have hR' : Rw P σ 0 (j + (m + 1)) ts := by rw [hj]; exact hR
    obtain ⟨pre, post, e1, e2, e3⟩ := Rw_split hR'
    rw [Nat.zero_add] at e3
    have goon : t_ov now (σ.1 4 2 (P j)) = false ∨ σ.1 4 0 (P j) = i 0 → ∀ r, r < j + 1 → σ.1 4 0 (P r) = i 1 → t_ov now (σ.1 4 2 (P r)) = false := by
      intro h r hr hon
      by_cases e : r = j
      · subst e
        rcases h with h | h
        · exact h
        · rw [hon] at h; exact absurd h (by decide)
      · exact hno r (by omega) hon
    rcases e3 with ⟨g1, g2⟩ | ⟨t, ts2, rfl, g2, g3⟩
    · rw [g1, if_pos (show i 0 = 0 from rfl), l1, i_add]
      exact ih (j + 1) K f c frd ts line dl la σ hA hw hu1 hP1 hR (by omega) (by omega) (by omega) (goon (Or.inr g1))
    · rw [g2.1, if_neg (by decide), Tuple_isOverAt_q, some_bind]
      dsimp only
      have htm : t ∈ ts := by rw [e1]; simp
      obtain ⟨-, ⟨e, he1, he2⟩, -⟩ := w1.2 t htm
      have hov := a_over_t he2 (by omega) (show now < 2147483648 by omega)
      rw [← g2.2.2.1] at hov
      cases hb : t_ov now (σ.1 4 2 (P j)) with
      | false =>
        rw [show (!decide (σ.1 4 2 (P j) = 0) && !decide (i now < σ.1 4 2 (P j))) = false from hb, if_pos (show b01 false = 0 from rfl), l1, i_add]
        exact ih (j + 1) K f c frd ts line dl la σ hA hw hu1 hP1 hR (by omega) (by omega) (by omega) (goon (Or.inl hb))
      | true =>
        rw [show (!decide (σ.1 4 2 (P j) = 0) && !decide (i now < σ.1 4 2 (P j))) = true from hb, if_neg (by decide)]
        obtain ⟨K, rfl⟩ : ∃ k, K = k + 1 := ⟨K - 1, by omega⟩
        have hfind : ts.find? (a_over now) = some t := by
          rw [e1, List.find?_append]
          have hpre : pre.find? (a_over now) = none := by
            rw [List.find?_eq_none]
            intro q hq
            obtain ⟨r, -, r2, r3⟩ := Rw_obj e2 hq
            have hqm : q ∈ ts := by rw [e1]; exact List.mem_append_left _ hq
            obtain ⟨-, ⟨e', e1', e2'⟩, -⟩ := w1.2 q hqm
            rw [a_over_t e2' (by omega) (by omega), ← r3.2.2.1, hno r (by omega) r3.1]
            decide
          rw [hpre, List.find?_cons, hov, hb]
          rfl
        have ha : a_tick now (K + 1) ts line dl la c frd = a_tick now K (a_end t ts line dl la).1 (a_end t ts line dl la).2.1 (a_end t ts line dl la).2.2.1 (a_end t ts line dl la).2.2.2.1 (c + 1) (frd || (a_end t ts line dl la).2.2.2.2) := by
          show (match ts.find? (a_over now) with | none => _ | some t => _) = _
          rw [hfind]
        rw [ha]
        have hend := JB_endTuple_s (n := n) (f := f) (u := u) (r := j) (t := t) hA hw (by omega) hu hu1 (by rw [hP1]; exact hP) (by rw [hP1]; exact hR) (by omega) (by rw [hP1]; exact g2) htm
        rw [hP1] at hend
        refine wp_bind hend (fun q hq => ?_)
        obtain ⟨x1, x2⟩ := q
        obtain ⟨d1, d2, d3, d4, d5, d6⟩ := hq
        replace d1 : x1 = _ := d1
        subst d1
        dsimp only at d2 d3 d4 d5 d6 ⊢
        have hw2 := wfA_end hw htm
        have hRx : Rw P x2 0 u (a_end t ts line dl la).1 := by
          obtain ⟨u9, v1, v2, v3, v4⟩ := d2.2.2.2.1
          rw [d6, i_eq (by omega) (by omega)] at v2
          rw [d5, ← v2] at v4
          exact v4
        rw [b01_o, l1, i_add, i_add]
        exact ih (j + 1) K f (c + 1) _ _ _ _ _ x2 d2 hw2 d6 d5 hRx (by omega) (by omega) (by omega) (fun r hr hon => by
          by_cases e : r = j
          · subst e
            rw [d4] at hon
            exact absurd hon (by decide)
          · rw [(d3 (P r)).2.1]
            refine hno r (by omega) ?_
            rcases (d3 (P r)).2.2 with g | g
            · rw [hon] at g; exact absurd g (by decide)
            · rw [← g]; exact hon)
theorem JB_isSpan_s {n : Nat} {x : Int32} {σ : J} : JB_isSpan n x σ = some (b01 (decide (0 ≤ x) && decide (x ≤ 1000)), σ) := by
  unfold JB_isSpan JB_isSpan_b0 JB_isSpan_b15 JB_isSpan_b16
  simp only [and1_0, and1_1, if_true]
  by_cases h : 0 ≤ x
  · rw [if_neg (by rw [Int32.lt_iff_toInt_lt]; rw [Int32.le_iff_toInt_le] at h; omega)]
    by_cases h2 : x ≤ 1000
    · rw [if_neg (by rw [Int32.lt_iff_toInt_lt]; rw [Int32.le_iff_toInt_le] at h2; omega), decide_eq_true h, decide_eq_true h2]; rfl
    · rw [if_pos (by rw [Int32.lt_iff_toInt_lt]; rw [Int32.le_iff_toInt_le] at h2; omega), decide_eq_false h2, Bool.and_false]; rfl
  · rw [if_pos (by rw [Int32.lt_iff_toInt_lt]; rw [Int32.le_iff_toInt_le] at h; omega), decide_eq_false h, Bool.false_and]; rfl
/-- a span, as a number -/
theorem span_i {x : Int32} (h : (decide (0 ≤ x) && decide (x ≤ 1000)) = true) : ∃ k, k ≤ 1000 ∧ x = i k := by
  rw [Bool.and_eq_true, decide_eq_true_iff, decide_eq_true_iff] at h
  refine ⟨x.toNatClampNeg, ?_, i_of h.1⟩
  have := h.2
  rw [i_of h.1, l1000, i_le (i_cl x) (by decide)] at this
  exact this
/-- the whole of a tick -/
def o_tick (x : Int32) (a : Sq) : (Int32 ⊕ Nat) × Sq := match a with
  | (now, lat, ts, line, dl, dr, pt, la, jo, tk, fn, os) =>
    if (decide (0 ≤ x) && decide (x ≤ 1000)) = true then
      let r := a_tick (now + x.toNatClampNeg) 20 ts line dl la 0 false
      (.inl (i r.2.2.2.2.1), a_ticked (now + x.toNatClampNeg, lat, ts, line, dl, dr, pt, la, jo, tk, fn, os) r)
    else (.inr 3, a)
theorem okTs_now {n now now1 lat : Nat} {dl : Nat → Nat} {ts : List Tp} (h : okTs n now lat dl ts) (hn : now ≤ now1) : okTs n now1 lat dl ts := ⟨h.1, fun t ht => by
  obtain ⟨h1, ⟨e, h2, h3⟩, h4⟩ := h.2 t ht
  exact ⟨h1, ⟨e, by omega, h3⟩, h4⟩⟩
theorem JB_tick_s {n f : Nat} {x : Int32} {a : Sq} {σ : J} (hA : cA n σ a) (hw : wfA n a) (hb : a.1 ≤ 900000) (hf : 200 ≤ f) : wp (JB_tick n f x σ) (fun q => q.1 = (o_tick x a).1 ∧ cA n q.2 (o_tick x a).2 ∧ wfA n (o_tick x a).2) := by
  obtain ⟨now, lat, ts, line, dl, dr, pt, la, jo, tk, fn, os⟩ := a
  replace hb : now ≤ 900000 := hb
  unfold JB_tick JB_tick_b0 o_tick
  rw [JB_isSpan_s, some_bind]
  dsimp only
  cases hs : (decide (0 ≤ x) && decide (x ≤ 1000)) with
  | false =>
    rw [if_pos (show b01 false = 0 from rfl), wp_some]
    exact ⟨rfl, hA, hw⟩
  | true =>
    obtain ⟨k, hk, rfl⟩ := span_i hs
    rw [if_neg (by decide), if_pos rfl, bs_eq, i_n (by omega)]
    obtain ⟨g1, g2, g3, g4, g5, g6, g7, g8, g9, g10, g11, g12⟩ := hA
    obtain ⟨w1, w2, w3, w4, w5, w6, w7, w8, w9, w10, w11, w12, w13⟩ := hw
    rw [g2, i_add]
    have hfr : fr (fun a b => a = 0 ∧ b = 0) σ (q_sI σ 0 5 0 (i (now + k))) := fr.rf.sI ⟨rfl, rfl⟩
    have hA1 : cA n (q_sI σ 0 5 0 (i (now + k))) (now + k, lat, ts, line, dl, dr, pt, la, jo, tk, fn, os) := by
      refine ⟨g1, by rw [sI1, if_pos ⟨rfl, rfl, rfl⟩], g3, g4.fr hfr (by omega) (by omega) (fun z _ => by omega), g5, g6, g7, g8, g9, g10, g11, ⟨by rw [sI1, if_neg (by omega)]; exact g12.1, fun j o ho => (g12.2.1 j o ho).fr hfr (fun a _ _ => by omega) (by omega) (by omega), g12.2.2⟩⟩
    have hw1 : wfA n (now + k, lat, ts, line, dl, dr, pt, la, jo, tk, fn, os) := ⟨okTs_now w1 (by omega), w2, w3, w4, w5, w6, w7, w8, w9, w10, w11, by omega, w13⟩
    have hB := hA1.2.2.2.1
    obtain ⟨u, u1, u2, u3, u4⟩ := hB
    exact JB_tick_L u3 u1 u 0 20 f 0 false ts line dl la _ hA1 hw1 u2 rfl u4 (by omega) u1 (by omega) (fun r hr => by omega)
