/-! The class settles, abandons, ends tuples. Ours. -/
theorem JB_settle_L {n u s : Nat} {P : Nat → Nat} {Q : J → Prop} (hu : u ≤ 20) (hP : okP P) :
    ∀ (m j f : Nat) (came : Bool) (σ : J) (ts : List Tp) (os : List Od), σ.1 2 1 0 = i u → σ.2.2.2 3 0 = P → Rw P σ j m ts → j + m = u → m + 90 ≤ f → okS ts → cOs σ os → (∀ o ∈ os, okGs o.1 ∧ o.2.1.length ≤ 5) → os.length ≤ 6 → (∀ o, o < 6 → σ.2.2.2 20 0 o = o) →
      (∀ (τ : J) (f1 : Nat), 85 ≤ f1 → fr (fun a b => Zr P j a b ∨ Zp a b) σ τ → Rw P τ j m (a_settle s ts os).1 → cOs τ (a_settle s ts os).2.1 → wp (if b01 (came || (a_settle s ts os).2.2) = 0 then some τ else (JB_serveLine n f1 τ).bind fun q1 => some q1) Q) → wp (JB_settle_L4 n f (i s) (b01 came) (i j) σ) Q := by
  intro m
  induction m with
  | zero =>
    intro j f came σ ts os hu1 hP1 h hj hf hS hO hok hl hst kk
    obtain ⟨f, rfl⟩ : ∃ g, f = g + 1 := ⟨f - 1, by omega⟩
    obtain rfl : ts = [] := h
    unfold JB_settle_L4 JB_settle_b4 JB_settle_b82
    rw [hu1, if_pos (by rw [i_le (by omega) (by omega)]; omega)]
    have := kk σ f (by omega) fr.rf rfl hO
    rw [show (came || (a_settle s [] os).2.2) = came from Bool.or_false _] at this
    exact this
  | succ m ih =>
    intro j f came σ ts os hu1 hP1 h hj hf hS hO hok hl hst kk
    obtain ⟨f, rfl⟩ : ∃ g, f = g + 1 := ⟨f - 1, by omega⟩
    have hPj : Nat.blt (P j) 20 = true := by rw [blt_eq]; exact hP.1 j (by omega)
    have hin : q_in (i j) 20 = true := by rw [i_in (by omega)]; omega
    have hlo : ∀ a, ¬ Zr P (j + 1) a (P j) := fun a => Zr.lo hP (by omega) (by omega)
    have hlz : ∀ a, a ≤ 7 → ¬ (Zr P (j + 1) a (P j) ∨ Zp a (P j)) := fun a ha q => q.elim (hlo a) (fun q => by unfold Zp at q; omega)
    have hnx : ∀ {σ1 τ : J}, fr (fun a b => Zr P (j + 1) a b ∨ Zp a b) σ1 τ → fr (fun a b => Zr P j a b ∨ Zp a b) σ1 τ := fun h => h.up (fun a b q => q.elim (fun q => Or.inl ⟨q.1, q.2.choose, by have := q.2.choose_spec; omega, q.2.choose_spec.2⟩) Or.inr)
    unfold JB_settle_L4 JB_settle_b4 JB_settle_b68
    rw [hu1, if_neg (by rw [i_le (by omega) (by omega)]; omega), if_pos hin, i_n (by omega), hP1, if_pos hPj]
    simp only [and1_0, if_true, bs_eq]
    rcases h with ⟨h1, h2⟩ | ⟨t, ts1, rfl, h2, h3⟩
    · rw [off_isT h1, some_bind, if_pos (show b01 false = 0 from rfl), off_isP h1, some_bind, if_pos (show b01 false = 0 from rfl), l1, i_add]
      refine ih (j + 1) f came σ ts os hu1 hP1 h2 (by omega) (by omega) hS hO hok hl hst (fun τ f1 hf1 k1 k2 k3 => kk τ f1 hf1 (hnx k1) (Or.inl ⟨?_, k2⟩) k3)
      rw [(k1 4 (P j) (hlz 4 (by decide))).1]
      exact h1
    · have hS1 : okS ts1 := fun q hq => hS q (List.mem_cons_of_mem _ hq)
      have hfl := (hS t List.mem_cons_self).1
      rw [h2.isT, some_bind]
      dsimp only
      by_cases ht : a_isT (i s) 1 t = true
      · have ht' : a_isT (i s) (i 1) t = true := ht
        rw [if_neg (by rw [b01_0, ht]; decide), l1, i_add]
        have hfr : fr (fun a b => a = 4 ∧ b = P j) σ (q_sI σ 4 0 (P j) 0) := fr4
        have hfz : fr (fun a b => Zr P j a b ∨ Zp a b) σ (q_sI σ 4 0 (P j) 0) := hfr.up (fun a b q => Or.inl ⟨q.1, j, Nat.le_refl _, by omega, q.2⟩)
        have e : a_settle s (t :: ts1) os = a_settle s ts1 os := by
          show (if a_isT (i s) (i 1) t = true then a_settle s ts1 os else _) = _
          rw [if_pos ht']
        rw [e] at kk
        refine ih (j + 1) f came _ ts1 os hu1 hP1 (RwO hP (by omega) hfr h3) (by omega) (by omega) hS1 (hO.fr hl hfr (by omega) (fun a z _ _ _ => by omega) (fun z _ => by omega)) hok hl hst (fun τ f1 hf1 k1 k2 k3 => kk τ f1 hf1 (hfz.tr (hnx k1)) (Or.inl ⟨?_, k2⟩) k3)
        rw [(k1 4 (P j) (hlz 4 (by decide))).1, sI1, if_pos ⟨rfl, rfl, rfl⟩]
        rfl
      · have ht' : ¬ a_isT (i s) (i 1) t = true := ht
        rw [if_pos (by rw [b01_0]; simpa using ht), h2.isP, some_bind]
        dsimp only
        by_cases hp : a_isP (i s) 1 t = true
        · have hp' : a_isP (i s) (i 1) t = true := hp
          rw [if_neg (by rw [b01_0, hp]; decide), Tuple_putOutside_q, some_bind]
          have hfr : fr (fun a b => a = 4 ∧ b = P j) σ (q_sI (q_sI σ 4 3 (P j) im) 4 4 (P j) im) := fr4' fr4
          have hT1 := h2.setP (a := im) (b := im)
          have hu2 : (q_sI (q_sI σ 4 3 (P j) im) 4 4 (P j) im).1 2 1 0 = i u := by rw [(hfr 2 0 (by omega)).1]; exact hu1
          have e : a_settle s (t :: ts1) os = (t_setP t im im :: (a_settle s ts1 (a_report (t_setP t im im) os)).1, (a_settle s ts1 (a_report (t_setP t im im) os)).2.1, true) := by
            show (if a_isT (i s) (i 1) t = true then a_settle s ts1 os else if a_isP (i s) (i 1) t = true then _ else _) = _
            rw [if_neg ht', if_pos hp']
          rw [e] at kk
          refine wp_bind (JB_report_s (n := n) (f := f) (t := t_setP t im im) hfl hok hl (hO.fr hl hfr (by omega) (fun a z _ _ _ => by omega) (fun z _ => by omega)) hT1 hst (by omega)) (fun υ hυ => ?_)
          have hfz : fr (fun a b => Zr P j a b ∨ Zp a b) σ υ := (hfr.up (fun a b q => Or.inl ⟨q.1, j, Nat.le_refl _, by omega, q.2⟩)).tr (hυ.1.up (fun a b q => Or.inr q))
          have hz4 : ∀ a b, a ≤ 7 → ¬ Zp a b := fun a b h => by unfold Zp; omega
          rw [l1, i_add]
          refine ih (j + 1) f true υ ts1 _ (by rw [(hυ.1 2 0 (by unfold Zp; omega)).1]; exact hu2) (by rw [hυ.1.P3 (by unfold Zp; omega)]; exact hP1) ((RwO hP (by omega) hfr h3).fr hυ.1 (fun r _ _ => ⟨hz4 _ _ (by decide), hz4 _ _ (by decide), hz4 _ _ (by decide), hz4 _ _ (by decide)⟩)) (by omega) (by omega) hS1 hυ.2 (okOs_add hok) (by rw [a_report_len]; exact hl) (fun o ho => by rw [(hυ.1 20 0 (by unfold Zp; omega)).2.2.2]; exact hst o ho) (fun τ f1 hf1 k1 k2 k3 => ?_)
          have := kk τ f1 hf1 (hfz.tr (hnx k1)) (Or.inr ⟨_, _, rfl, (hT1.fr hυ.1 (hz4 _ _ (by decide)) (hz4 _ _ (by decide)) (hz4 _ _ (by decide)) (hz4 _ _ (by decide))).fr k1 (hlz 4 (by decide)) (hlz 5 (by decide)) (hlz 6 (by decide)) (hlz 7 (by decide)), k2⟩) k3
          rw [show (came || true) = true from Bool.or_true _] at this
          rw [Bool.true_or]
          exact this
        · have hp' : ¬ a_isP (i s) (i 1) t = true := hp
          rw [if_pos (by rw [b01_0]; simpa using hp), l1, i_add]
          have e : a_settle s (t :: ts1) os = (t :: (a_settle s ts1 os).1, (a_settle s ts1 os).2.1, (a_settle s ts1 os).2.2) := by
            show (if a_isT (i s) (i 1) t = true then a_settle s ts1 os else if a_isP (i s) (i 1) t = true then _ else _) = _
            rw [if_neg ht', if_neg hp']
          rw [e] at kk
          exact ih (j + 1) f came σ ts1 os hu1 hP1 h3 (by omega) (by omega) hS1 hO hok hl hst (fun τ f1 hf1 k1 k2 k3 => kk τ f1 hf1 (hnx k1) (Or.inr ⟨t, _, rfl, h2.fr k1 (hlz 4 (by decide)) (hlz 5 (by decide)) (hlz 6 (by decide)) (hlz 7 (by decide)), k2⟩) k3)
/-- a change of tuples and orders alone -/
theorem cA_ts {n : Nat} {Z : Nat → Nat → Prop} {now lat : Nat} {ts ts1 : List Tp} {line : List Nat} {dl : Nat → Nat} {dr : Nat → List FV} {pt : Nat → Nat → List Fm} {la : Nat → Int32} {jo : Nat → Nat} {tk : Nat → Bool} {fn : Nat → Fq} {os os1 : List Od} {σ τ : J} (h : cA n σ (now, lat, ts, line, dl, dr, pt, la, jo, tk, fn, os)) (hf : fr Z σ τ) (hZ : ∀ a b, Z a b → (a = 4 ∧ b < 20) ∨ (12 ≤ a ∧ a ≤ 15 ∧ b = 0) ∨ (18 ≤ a ∧ a ≤ 19 ∧ b < 6)) (hB : cB τ ts1) (hO : cOs τ os1) : cA n τ (now, lat, ts1, line, dl, dr, pt, la, jo, tk, fn, os1) := by
  obtain ⟨g1, g2, g3, g4, g5, g6, g7, g8, g9, g10, g11, g12⟩ := h
  have hz : ∀ a b, (a ≠ 4 ∨ 20 ≤ b) → (a < 12 ∨ 15 < a ∨ b ≠ 0) → (a < 18 ∨ 19 < a) → ¬ Z a b := fun a b h1 h2 h3 q => by have := hZ a b q; omega
  refine ⟨g1.fr hf (hz _ _ (by omega) (by omega) (by omega)) (fun q _ => Or.inl (hz _ _ (by omega) (by omega) (by omega))) (fun q _ => hz _ _ (by omega) (by omega) (by omega)) (hz _ _ (by omega) (by omega) (by omega)), ?_, ?_, hB, g5.fr hf (hz _ _ (by omega) (by omega) (by omega)) (hz _ _ (by omega) (by omega) (by omega)), ?_, ?_, g8.fr hf (fun a z _ _ _ => hz _ _ (by omega) (by omega) (by omega)), ?_, ?_, ?_, hO⟩
  · rw [(hf 0 0 (hz _ _ (by omega) (by omega) (by omega))).1]; exact g2
  · rw [(hf 2 0 (hz _ _ (by omega) (by omega) (by omega))).1]; exact g3
  · intro q hq; rw [(hf 16 q (hz _ _ (by omega) (by omega) (by omega))).1]; exact g6 q hq
  · exact fun q hq => (g7 q hq).fr hf (hz _ _ (by omega) (by omega) (by omega)) (hz _ _ (by omega) (by omega) (by omega)) (hz _ _ (by omega) (by omega) (by omega))
  · intro q hq; rw [(hf 16 q (hz _ _ (by omega) (by omega) (by omega))).1]; exact g9 q hq
  · intro q hq; rw [(hf 16 q (hz _ _ (by omega) (by omega) (by omega))).1, (hf 16 q (hz _ _ (by omega) (by omega) (by omega))).1]; exact g10 q hq
  · exact fun q hq => (g11 q hq).fr hf (hz _ _ (by omega) (by omega) (by omega)) (hz _ _ (by omega) (by omega) (by omega)) (hz _ _ (by omega) (by omega) (by omega)) (hz _ _ (by omega) (by omega) (by omega))
theorem JB_settle_s {n f s : Nat} {now lat : Nat} {ts : List Tp} {line : List Nat} {dl : Nat → Nat} {dr : Nat → List FV} {pt : Nat → Nat → List Fm} {la : Nat → Int32} {jo : Nat → Nat} {tk : Nat → Bool} {fn : Nat → Fq} {os : List Od} {σ : J} (hA : cA n σ (now, lat, ts, line, dl, dr, pt, la, jo, tk, fn, os)) (hS : okS ts) (hok : ∀ o ∈ os, okGs o.1 ∧ o.2.1.length ≤ 5) (hl : os.length ≤ 6) (hf : 120 ≤ f) (hw : wfA n (now, lat, (a_settle s ts os).1, line, dl, dr, pt, la, jo, tk, fn, (a_settle s ts os).2.1)) :
    wp (JB_settle n f (i s) σ) (fun τ => (let a := (now, lat, (a_settle s ts os).1, line, dl, dr, pt, la, jo, tk, fn, (a_settle s ts os).2.1); cA n τ (if (a_settle s ts os).2.2 = true then a_served a else a) ∧ wfA n (if (a_settle s ts os).2.2 = true then a_served a else a))) := by
  have hA' := hA
  obtain ⟨g1, g2, g3, g4, g5, g6, g7, g8, g9, g10, g11, g12⟩ := hA'
  obtain ⟨u, u1, u2, u3, u4⟩ := g4
  unfold JB_settle JB_settle_b0
  refine JB_settle_L (n := n) (s := s) u1 u3 u 0 f false σ ts os u2 rfl u4 (by omega) (by omega) hS g12 hok hl g1.2.2.2 (fun τ f1 hf1 k1 k2 k3 => ?_)
  have e3 : τ.2.2.2 3 0 = σ.2.2.2 3 0 := k1.P3 (fun q => by rcases q with q | q; exact absurd q.1 (by decide); unfold Zp at q; omega)
  have hB : cB τ (a_settle s ts os).1 := ⟨u, u1, by rw [(k1 2 0 (fun q => by rcases q with q | q; exact absurd q.1 (by decide); unfold Zp at q; omega)).1]; exact u2, by rw [e3]; exact u3, by rw [e3]; exact k2⟩
  have hA2 := cA_ts hA k1 (fun a b q => by
    rcases q with ⟨q1, r, q2, q3, q4⟩ | q
    · exact Or.inl ⟨q1, by rw [q4]; exact u3.1 r q3⟩
    · unfold Zp at q; omega) hB k3
  rw [Bool.false_or]
  cases hc : (a_settle s ts os).2.2 with
  | false =>
    rw [if_pos (show b01 false = 0 from rfl), wp_some]
    exact ⟨hA2, hw⟩
  | true =>
    rw [if_neg (by decide)]
    refine wp_bind (JB_serveLine_s hA2 hw (by omega)) (fun υ hυ => ?_)
    rw [wp_some]
    exact ⟨hυ.1, hυ.2.1⟩
theorem JB_abandonDownTo_L {n s d : Nat} (hs : s < n) (hd : 1 ≤ d ∧ d ≤ 4) :
    ∀ (c f : Nat) (acc : Bool) (ts : List Tp) (σ : J), c ≤ 4 → c + 40 ≤ f → cB σ ts → σ.1 16 0 s = i s → wp (JB_abandonDownTo_L8 n f s (i d) (b01 acc) (i c) σ) (fun q => q.1 = b01 (a_down s d c ts acc).2 ∧ cB q.2 (a_down s d c ts acc).1 ∧ fr (fun a b => Z4 a b ∨ (a = 16 ∧ b = s)) σ q.2 ∧ q.2.1 16 4 s = i (d - 1) ∧ (∀ f, f ≠ 4 → q.2.1 16 f s = σ.1 16 f s) ∧ kO σ q.2) := by
  intro c
  induction c with
  | zero =>
    intro f acc ts σ hc hf hB h0
    obtain ⟨f, rfl⟩ : ∃ g, f = g + 1 := ⟨f - 1, by omega⟩
    unfold JB_abandonDownTo_L8 JB_abandonDownTo_b8
    rw [if_pos (by rw [i_lt (by omega) (by omega)]; omega)]
    simp only [bs_eq, b01_a, if_true, wp_some]
    rw [l1, i_sub (by omega)]
    exact ⟨by first | rfl | trivial, hB.fr (Z := fun a b => a = 16 ∧ b = s) (fr.rf.sI ⟨rfl, rfl⟩) (by omega) (by omega) (fun z _ => by omega), fr.rf.sI (Or.inr ⟨rfl, rfl⟩), by rw [sI1, if_pos ⟨rfl, rfl, rfl⟩], fun g hg => by rw [sI1, if_neg (fun q => hg q.2.1)], kO.fld (by omega)⟩
  | succ c ih =>
    intro f acc ts σ hc hf hB h0
    obtain ⟨f, rfl⟩ : ∃ g, f = g + 1 := ⟨f - 1, by omega⟩
    unfold JB_abandonDownTo_L8 JB_abandonDownTo_b8 a_down
    by_cases hcd : c + 1 < d
    · rw [if_pos (by rw [i_lt (by omega) (by omega)]; omega), if_pos hcd]
      simp only [bs_eq, b01_a, if_true, wp_some]
      rw [l1, i_sub (by omega)]
      exact ⟨by first | rfl | trivial, hB.fr (Z := fun a b => a = 16 ∧ b = s) (fr.rf.sI ⟨rfl, rfl⟩) (by omega) (by omega) (fun z _ => by omega), fr.rf.sI (Or.inr ⟨rfl, rfl⟩), by rw [sI1, if_pos ⟨rfl, rfl, rfl⟩], fun g hg => by rw [sI1, if_neg (fun q => hg q.2.1)], kO.fld (by omega)⟩
    · rw [if_neg (by rw [i_lt (by omega) (by omega)]; omega), if_neg hcd, h0]
      refine wp_bind (Board_undo_s (n := n) hB (by omega)) (fun q hq => ?_)
      obtain ⟨q1, q2⟩ := q
      obtain ⟨d1, d2, d3, d4⟩ := hq
      replace d1 : q1 = _ := d1
      subst d1
      dsimp only at d2 d3 d4 ⊢
      rw [b01_o, show (-1 : Int32) = im from rfl, i_addm (by omega), Nat.add_sub_cancel]
      have h16 : ¬ Z4 16 s := by unfold Z4; omega
      refine wp_mono (ih f (acc || a_freed s (c + 1) ts) (a_undo s (c + 1) ts) q2 (by omega) (by omega) d3 (by rw [(d2 16 s h16).1]; exact h0)) (fun r hr => ⟨hr.1, hr.2.1, (d2.up (fun a b q => Or.inl q)).tr hr.2.2.1, hr.2.2.2.1, fun g hg => ?_, d4.tr hr.2.2.2.2.2⟩)
      rw [hr.2.2.2.2.1 g hg, (d2 16 s h16).1]
theorem JB_abandonDownTo_s {n f s d c : Nat} {ts : List Tp} {σ : J} (hs : s < n) (hd : 1 ≤ d ∧ d ≤ 4) (hc : c ≤ 4) (hf : 50 ≤ f) (hB : cB σ ts) (h0 : σ.1 16 0 s = i s) (h4 : σ.1 16 4 s = i c) : wp (JB_abandonDownTo n f s (i d) σ) (fun q => q.1 = b01 (a_down s d c ts false).2 ∧ cB q.2 (a_down s d c ts false).1 ∧ fr (fun a b => Z4 a b ∨ (a = 16 ∧ b = s)) σ q.2 ∧ q.2.1 16 4 s = i (d - 1) ∧ (∀ f, f ≠ 4 → q.2.1 16 f s = σ.1 16 f s) ∧ kO σ q.2) := by
  unfold JB_abandonDownTo JB_abandonDownTo_b0
  rw [h4]
  exact JB_abandonDownTo_L hs hd c f false ts σ hc (by omega) hB h0

/-- on the board in one row, at that number in no other -/
theorem Rw_one {P : Nat → Nat} {σ : J} : ∀ {m j r r1 : Nat} {ts : List Tp}, Rw P σ j m ts → (ts.map t_num).Nodup → j ≤ r → r < r1 → r1 < j + m → σ.1 4 0 (P r) = i 1 → σ.1 4 0 (P r1) = i 1 → σ.1 4 1 (P r) ≠ σ.1 4 1 (P r1) := by
  have mem : ∀ {m j r : Nat} {ts : List Tp}, Rw P σ j m ts → j ≤ r → r < j + m → σ.1 4 0 (P r) = i 1 → σ.1 4 1 (P r) ∈ ts.map t_num := by
    intro m
    induction m with
    | zero => intro j r ts h h1 h2; omega
    | succ m ih =>
      intro j r ts h h1 h2 h3
      rcases h with ⟨g1, g2⟩ | ⟨t, ts1, rfl, g2, g3⟩
      · have hne : r ≠ j := fun e => by rw [e, g1] at h3; exact absurd h3 (by decide)
        exact ih g2 (by omega) (by omega) h3
      · by_cases e : r = j
        · rw [e, g2.2.1]; exact List.mem_cons_self
        · exact List.mem_cons_of_mem _ (ih g3 (by omega) (by omega) h3)
  intro m
  induction m with
  | zero => intro j r r1 ts h hn h1 h2 h3; omega
  | succ m ih =>
    intro j r r1 ts h hn h1 h2 h3 h4 h5
    rcases h with ⟨g1, g2⟩ | ⟨t, ts1, rfl, g2, g3⟩
    · have hne : r ≠ j := fun e => by rw [e, g1] at h4; exact absurd h4 (by decide)
      exact ih g2 hn (by omega) h2 (by omega) h4 h5
    · rw [List.map_cons, List.nodup_cons] at hn
      by_cases e : r = j
      · intro q
        rw [e, g2.2.1] at q
        exact hn.1 (q ▸ mem g3 (by omega) (by omega) h5)
      · exact ih g3 hn.2 (by omega) h2 (by omega) h4 h5
theorem Rw_obj {P : Nat → Nat} {σ : J} : ∀ {m j : Nat} {ts : List Tp} {t : Tp}, Rw P σ j m ts → t ∈ ts → ∃ r, j ≤ r ∧ r < j + m ∧ cT σ (P r) t := by
  intro m
  induction m with
  | zero => intro j ts t h ht; rw [show ts = [] from h] at ht; cases ht
  | succ m ih =>
    intro j ts t h ht
    rcases h with ⟨g1, g2⟩ | ⟨t1, ts1, rfl, g2, g3⟩
    · obtain ⟨r, h1, h2, h3⟩ := ih g2 ht
      exact ⟨r, by omega, by omega, h3⟩
    · rcases List.mem_cons.mp ht with rfl | ht
      · exact ⟨j, Nat.le_refl _, by omega, g2⟩
      · obtain ⟨r, h1, h2, h3⟩ := ih g3 ht
        exact ⟨r, by omega, by omega, h3⟩
theorem Rw_split {P : Nat → Nat} {σ : J} : ∀ {k j m : Nat} {ts : List Tp}, Rw P σ j (k + m) ts → ∃ pre post, ts = pre ++ post ∧ Rw P σ j k pre ∧ Rw P σ (j + k) m post := by
  intro k
  induction k with
  | zero => intro j m ts h; exact ⟨[], ts, rfl, rfl, by rw [Nat.zero_add] at h; exact h⟩
  | succ k ih =>
    intro j m ts h
    rw [show k + 1 + m = (k + m) + 1 by omega] at h
    rcases h with ⟨g1, g2⟩ | ⟨t, ts1, rfl, g2, g3⟩
    · obtain ⟨pre, post, e1, e2, e3⟩ := ih g2
      exact ⟨pre, post, e1, Or.inl ⟨g1, e2⟩, by rw [show j + (k + 1) = j + 1 + k by omega]; exact e3⟩
    · obtain ⟨pre, post, e1, e2, e3⟩ := ih g3
      exact ⟨t :: pre, post, by rw [e1]; rfl, Or.inr ⟨t, pre, rfl, g2, e2⟩, by rw [show j + (k + 1) = j + 1 + k by omega]; exact e3⟩
theorem q_sI_id {τ : J} {k f z : Nat} {v : Int32} (h : τ.1 k f z = v) : q_sI τ k f z v = τ := by
  obtain ⟨a, b⟩ := τ
  show (_, b) = (a, b)
  congr 1
  funext x y w
  by_cases e : x = k ∧ y = f ∧ w = z
  · rw [if_pos e, e.1, e.2.1, e.2.2]; exact h.symm
  · rw [if_neg e]
/-- a tuple's object is put aside: the tuple of that number is gone -/
theorem cB_drop {σ τ : J} {ts ts1 : List Tp} {r u : Nat} (hu : u ≤ 20) (hu1 : τ.1 2 1 0 = i u) (hP : okP (σ.2.2.2 3 0)) (hr : r < u) (hB0 : Rw (σ.2.2.2 3 0) σ 0 u ts) (hn0 : (ts.map t_num).Nodup) (hon : σ.1 4 0 (σ.2.2.2 3 0 r) = i 1) (hP3 : τ.2.2.2 3 0 = σ.2.2.2 3 0) (hB : Rw (σ.2.2.2 3 0) τ 0 u ts1) (hn : (ts1.map t_num).Nodup) (hk : kO σ τ) : cB (q_sI τ 4 0 (σ.2.2.2 3 0 r) 0) (ts1.filter (fun t => decide (t_num t ≠ σ.1 4 1 (σ.2.2.2 3 0 r)))) := by
  generalize hPe : σ.2.2.2 3 0 = P at *
  have hfr : fr (fun a b => a = 4 ∧ b = P r) τ (q_sI τ 4 0 (P r) 0) := fr4
  refine ⟨u, hu, by rw [(hfr 2 0 (by omega)).1]; exact hu1, by rw [hfr.P3 (by omega), hP3]; exact hP, ?_⟩
  rw [hfr.P3 (by omega), hP3]
  by_cases h1 : τ.1 4 0 (P r) = i 1
  · obtain ⟨t, pre, post, e1, e2, e3⟩ := Rw_hole hP hB (by omega) (Nat.zero_le r) (by omega) h1
    have hN : t_num t = σ.1 4 1 (P r) := by rw [← e2.2.1]; exact (hk (P r)).1
    subst e1
    rw [filter_mid hn hN]
    exact (e3 _ hfr).1 (by rw [sI1, if_pos ⟨rfl, rfl, rfl⟩]; rfl)
  · have h0 : τ.1 4 0 (P r) = i 0 := by
      rcases (hk (P r)).2.2 with q | q
      · exact q
      · rw [hon] at q; exact absurd q h1
    rw [filter_none (fun t ht e => ?_)]
    · rw [q_sI_id (show τ.1 4 0 (P r) = 0 from h0)]
      exact hB
    · obtain ⟨q, q1, q2, q3⟩ := Rw_obj hB ht
      have hq1 : σ.1 4 0 (P q) = i 1 := by
        rcases (hk (P q)).2.2 with g | g
        · rw [q3.1] at g; exact absurd g (by decide)
        · rw [← g]; exact q3.1
      have hq2 : σ.1 4 1 (P q) = σ.1 4 1 (P r) := by rw [← (hk (P q)).1, q3.2.1]; exact e
      rcases Nat.lt_trichotomy q r with g | g | g
      · exact Rw_one hB0 hn0 (Nat.zero_le _) g (by omega) hq1 hon hq2
      · subst g; exact h1 q3.1
      · exact Rw_one hB0 hn0 (Nat.zero_le _) g (by omega) hon hq1 hq2.symm
