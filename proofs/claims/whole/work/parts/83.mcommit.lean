/-! The reference commits a deal. Ours. -/
def mHd (σ : J) (j d : Nat) (p k : Bool) : J := q_sA (q_sA σ 29 0 (upd (σ.2.1 29 0) j (if p = true then i (d - 1) else σ.2.1 29 0 j))) 31 0 (upd (σ.2.1 31 0) j (if k = true then i (d - 1) else σ.2.1 31 0 j))
theorem bf0 : (b01 false = 0) = True := propext ⟨fun _ => trivial, fun _ => rfl⟩
theorem bt0 : (b01 true = 0) = False := propext ⟨fun h => absurd h (by decide), False.elim⟩
theorem tt_eq : (true = true) = True := propext ⟨fun _ => trivial, fun _ => rfl⟩
theorem ft_eq : (false = true) = False := propext ⟨(fun h => nomatch h), False.elim⟩
/-- one row of a deal that is committed -/
theorem M_commit_step {n s d j c f : Nat} {l2 l3 : Int32} {t : Tp} {σ : J} {kk : Int32 → Int32 → Int32 → Int32 → Int32 → J → Option (Int32 × J)} (hs : s < 4) (hd : 1 ≤ d) (hT : mT σ j t) (hj : j < 20) (h34 : σ.2.1 34 0 s = i d) (hl : ¬ σ.1 24 1 0 ≤ i j) :
    M_commit_b63 n kk f (i s) l2 l3 (i c) (i j) σ = if a_isT (i s) (i d) t = true ∧ l2 = 0 then (M_remove n f (i j) (mHd σ j d (a_isP (i s) (i d) t) true)).bind (fun q => kk (i s) l2 l3 (i (c + 1)) (i j) q) else if a_isP (i s) (i d) t = true ∧ l2 = 0 then (M_outside n f (i j) (mHd σ j d true (a_isT (i s) (i d) t))).bind (fun q => kk (i s) l2 1 (i (c + 1)) (i (j + 1)) q) else kk (i s) l2 l3 (i (c + if (a_isP (i s) (i d) t || a_isT (i s) (i d) t) = true then 1 else 0)) (i (j + 1)) (mHd σ j d (a_isP (i s) (i d) t) (a_isT (i s) (i d) t)) := by
  have hin : q_in (i j) 20 = true := by rw [i_in (by omega)]; exact hj
  have h29 : a_isP (i s) (i d) t = true → σ.2.1 29 0 j - 1 = i (d - 1) := fun h => by
    unfold a_isP at h
    rw [Bool.and_eq_true, decide_eq_true_iff, decide_eq_true_iff] at h
    rw [hT.2.2.2.1 (by rw [h.1]; exact fun q => by rw [i_m (by omega)] at q; exact q), h.2]
    exact i_sub hd
  have h31 : a_isT (i s) (i d) t = true → σ.2.1 31 0 j - 1 = i (d - 1) := fun h => by
    unfold a_isT at h
    rw [Bool.and_eq_true, decide_eq_true_iff, decide_eq_true_iff] at h
    rw [hT.2.2.2.2.2.1 (by rw [h.1]; exact fun q => by rw [i_m (by omega)] at q; exact q), h.2]
    exact i_sub hd
  unfold M_commit_b63
  rw [if_neg hl, M_isPut_s hT hj hs h34, some_bind]
  dsimp only
  rw [M_isTaken_s hT hj hs h34, some_bind]
  dsimp only
  unfold M_commit_b100 M_commit_b109 M_commit_b141 M_commit_b172 M_commit_b191 M_commit_b208 M_commit_b211 mHd
  cases hp : a_isP (i s) (i d) t <;> cases hk : a_isT (i s) (i d) t
  · simp only [hin, bf0, bt0, tt_eq, ft_eq, if_true, if_false, bs_eq, false_and, true_and, Bool.or_self, Nat.add_zero]
    rw [i_n (by omega), show i j + 1 = i (j + 1) from i_add j 1]
    rfl
  · simp only [hin, bf0, bt0, tt_eq, ft_eq, if_true, if_false, bs_eq, false_and, true_and, Bool.or_true]
    rw [i_n (by omega), show i j + 1 = i (j + 1) from i_add j 1, show i c + 1 = i (c + 1) from i_add c 1]
    have := h31 hk
    rw [show (q_sA σ 29 0 (upd (σ.2.1 29 0) j (σ.2.1 29 0 j))).2.1 31 0 j - 1 = i (d - 1) from this]
    rfl
  · simp only [hin, bf0, bt0, tt_eq, ft_eq, if_true, if_false, bs_eq, false_and, true_and, Bool.true_or]
    rw [i_n (by omega), show i j + 1 = i (j + 1) from i_add j 1, show i c + 1 = i (c + 1) from i_add c 1, h29 hp]
    rfl
  · simp only [hin, bf0, bt0, tt_eq, ft_eq, if_true, if_false, bs_eq, false_and, true_and, Bool.or_self]
    rw [i_n (by omega), show i j + 1 = i (j + 1) from i_add j 1, show i c + 1 = i (c + 1) from i_add c 1, h29 hp]
    have := h31 hk
    rw [show (q_sA σ 29 0 (upd (σ.2.1 29 0) j (i (d - 1)))).2.1 31 0 j - 1 = i (d - 1) from this]
    split <;> rfl
theorem isT_setP {s d a b : Int32} {t : Tp} : a_isT s d (t_setP t a b) = a_isT s d t := rfl
theorem hand_B {s d : Nat} {done rest : List Tp} {t : Tp} {σ : J} (hs : s < 4) (hB : mB σ (done ++ t :: rest)) : mB (mHd σ done.length d (a_isP (i s) (i d) t) (a_isT (i s) (i d) t)) (done ++ a_hand1 s d t :: rest) := by
  have hT := hB.2.2 done.length t get_mid
  have hne : ¬ i s = im := fun q => by rw [i_m (by omega)] at q; exact q
  have := mB_set (j := done.length) (t := a_hand1 s d t) (τ := mHd σ done.length d (a_isP (i s) (i d) t) (a_isT (i s) (i d) t)) hB (by simp) rfl ?_ ?_
  · rw [set_mid] at this; exact this
  · obtain ⟨g1, g2, g3, g4, g5, g6, g7⟩ := hT
    unfold a_hand1 mHd
    have x29 : ∀ v, (q_sA (q_sA σ 29 0 (upd (σ.2.1 29 0) done.length v)) 31 0 (upd (σ.2.1 31 0) done.length (if a_isT (i s) (i d) t = true then i (d - 1) else σ.2.1 31 0 done.length))).2.1 29 0 done.length = v := fun v => upd_at
    cases hp : a_isP (i s) (i d) t <;> cases hk : a_isT (i s) (i d) t
    · simp only [ft_eq, if_false, hk]
      exact ⟨g1, g2, g3, fun e => upd_at.trans (g4 e), g5, fun e => upd_at.trans (g6 e), g7⟩
    · simp only [ft_eq, tt_eq, if_false, if_true, hk]
      unfold a_isT at hk
      rw [Bool.and_eq_true, decide_eq_true_iff, decide_eq_true_iff] at hk
      exact ⟨g1, g2, g3, fun e => upd_at.trans (g4 e), g5.trans hk.1, fun e => upd_at, g7⟩
    · simp only [ft_eq, tt_eq, if_false, if_true, isT_setP, hk]
      unfold a_isP at hp
      rw [Bool.and_eq_true, decide_eq_true_iff, decide_eq_true_iff] at hp
      exact ⟨g1, g2, g3.trans hp.1, fun e => upd_at, g5, fun e => upd_at.trans (g6 e), g7⟩
    · simp only [tt_eq, if_true, isT_setP, hk]
      unfold a_isP at hp
      rw [Bool.and_eq_true, decide_eq_true_iff, decide_eq_true_iff] at hp
      unfold a_isT at hk
      rw [Bool.and_eq_true, decide_eq_true_iff, decide_eq_true_iff] at hk
      exact ⟨g1, g2, g3.trans hp.1, fun e => upd_at, g5.trans hk.1, fun e => upd_at, g7⟩
  · intro q u hq _ hu
    obtain ⟨g1, g2, g3, g4, g5, g6, g7⟩ := hu
    exact ⟨g1, g2, g3, fun e => (upd_ne hq).trans (g4 e), g5, fun e => (upd_ne hq).trans (g6 e), g7⟩
def Kc : Nat → Prop := fun k => Kr k ∨ Ko k
theorem mA_tso {n : Nat} {now lat : Nat} {ts : List Tp} {line : List Nat} {dl : Nat → Nat} {dr : Nat → List FV} {pt : Nat → Nat → List Fm} {la : Nat → Int32} {jo : Nat → Nat} {tk : Nat → Bool} {fn : Nat → Fq} {os : List Od} {ts1 : List Tp} {os1 : List Od} {σ τ : J} (h : mA n σ (now, lat, ts, line, dl, dr, pt, la, jo, tk, fn, os)) (hf : mf Kc F1 σ τ) (hB : mB τ ts1) (hO : mOs τ os1) (h52 : ∀ v, v < 4 → τ.2.1 52 0 v = im) : mA n τ (now, lat, ts1, line, dl, dr, pt, la, jo, tk, fn, os1) := by
  obtain ⟨h1, h2, h3, h4, h5, h6, h7, h8, h9, h10, h11, h12, h13⟩ := h
  exact ⟨by rw [hf.2 13 (by unfold F1; omega)]; exact h1, by rw [hf.2 3 (by unfold F1; omega)]; exact h2, by rw [hf.2 2 (by unfold F1; omega)]; exact h3, hB, h5.fr hf (by unfold Kc Kr Ko; omega) (by unfold F1; omega), fun q hq => by rw [(hf.1 34 (by unfold Kc Kr Ko; omega)).1]; exact h6 q hq, fun q hq => by rw [(hf.1 35 (by unfold Kc Kr Ko; omega)).1, (hf.1 36 (by unfold Kc Kr Ko; omega)).1, (hf.1 37 (by unfold Kc Kr Ko; omega)).2]; exact h7 q hq, fun q p hq hp => (h8 q p hq hp).fr hf (fun k _ _ => (by unfold Kc Kr Ko; omega)), fun q hq => by rw [(hf.1 45 (by unfold Kc Kr Ko; omega)).1]; exact h9 q hq, fun q hq => by rw [(hf.1 43 (by unfold Kc Kr Ko; omega)).1, (hf.1 44 (by unfold Kc Kr Ko; omega)).1]; exact h10 q hq, fun q hq => (h11 q hq).fr hf (by unfold Kc Kr Ko; omega) (by unfold Kc Kr Ko; omega) (by unfold Kc Kr Ko; omega), hO, h52⟩
theorem mHd_f {σ : J} {j d : Nat} {p k : Bool} : mf Kc F1 σ (mHd σ j d p k) := (mf.rf.sA (by unfold Kc Kr; omega)).sA (by unfold Kc Kr; omega)
theorem mHd_O {σ : J} {j d : Nat} {p k : Bool} {os : List Od} (h : mOs σ os) : mOs (mHd σ j d p k) os := h
theorem app3 {α : Type} {a c : List α} {b : α} : a ++ b :: c = (a ++ [b]) ++ c := by simp
theorem hand_fs {s d : Nat} {t : Tp} : t_fs (a_hand1 s d t) = t_fs t := by
  unfold a_hand1
  dsimp only
  split <;> split <;> rfl
theorem M_commit_H {n s d : Nat} {now lat : Nat} {line : List Nat} {dl : Nat → Nat} {dr : Nat → List FV} {pt : Nat → Nat → List Fm} {la : Nat → Int32} {jo : Nat → Nat} {tk : Nat → Bool} {fn : Nat → Fq} {os : List Od} (hn : n ≤ 4) (hs : s < n) (hd : 2 ≤ d ∧ d ≤ 4) (hds : dl s = d) :
    ∀ (rest done : List Tp) (f c : Nat) (σ : J), mA n σ (now, lat, done ++ rest, line, dl, dr, pt, la, jo, tk, fn, os) → rest.length + 70 ≤ f → wp (M_commit_L63 n f (i s) 1 0 (i c) (i done.length) σ) (fun q => q.1 = i (c + a_inDeal s d rest) ∧ mA n q.2 (now, lat, done ++ rest.map (a_hand1 s d), line, va_up dl s (d - 1), dr, pt, la, jo, tk, fn, os) ∧ q.2.1 24 0 0 = σ.1 24 0 0) := by
  intro rest
  induction rest with
  | nil =>
    intro done f c σ hA hf
    obtain ⟨f, rfl⟩ : ∃ g, f = g + 1 := ⟨f - 1, by omega⟩
    have hB := hA.2.2.2.1
    have h1 := hB.1
    have h20 := hB.2.1
    rw [List.append_nil] at h1 h20
    show wp (M_commit_b63 n (M_commit_L63 n f) f (i s) 1 0 (i c) (i done.length) σ) _
    unfold M_commit_b63 M_commit_b232
    simp only [bs_eq]
    have his : q_in (i s) 4 = true := by rw [i_in (by omega)]; omega
    refine wp_ite (fun _ => ?_) (fun q_ => absurd (show σ.1 24 1 0 ≤ i done.length by rw [h1, i_le (by omega) (by omega)]; omega) q_)
    refine wp_ite (fun _ => ?_) (fun q_ => absurd (his) q_)
    refine wp_ite (fun _ => ?_) (fun q_ => absurd (his) q_)
    refine wp_ite (fun _ => ?_) (fun q_ => absurd (trivial) q_)
    rw [i_n (by omega), hA.2.2.2.2.2.1 s hs, hds, l1, i_sub (by omega)]
    exact wp_s ⟨rfl, mA_34 hA (mf.rf.sA rfl) (fun y => rfl), rfl⟩
  | cons t rest ih =>
    intro done f c σ hA hf
    obtain ⟨f, rfl⟩ : ∃ g, f = g + 1 := ⟨f - 1, by omega⟩
    have hfl : rest.length + 70 ≤ f := by simp at hf; omega
    have hB := hA.2.2.2.1
    have h1 := hB.1
    have h20 := hB.2.1
    have hlen : (done ++ t :: rest).length = done.length + rest.length + 1 := by simp; omega
    have hT := hB.2.2 done.length t get_mid
    show wp (M_commit_b63 n (M_commit_L63 n f) f (i s) 1 0 (i c) (i done.length) σ) _
    rw [M_commit_step (t := t) (show s < 4 by omega) (show 1 ≤ d by omega) hT (by omega) (by rw [← hds]; exact hA.2.2.2.2.2.1 s hs) (by rw [h1, i_le (by omega) (by omega)]; omega)]
    rw [if_neg (fun q => absurd q.2 (by decide)), if_neg (fun q => absurd q.2 (by decide))]
    have hB2 := hand_B (s := s) (d := d) (by omega) hB
    have hA2 := mA_tso hA mHd_f hB2 hA.2.2.2.2.2.2.2.2.2.2.2.1 hA.2.2.2.2.2.2.2.2.2.2.2.2
    rw [app3] at hA2
    have := ih (done ++ [a_hand1 s d t]) f (c + if (a_isP (i s) (i d) t || a_isT (i s) (i d) t) = true then 1 else 0) _ hA2 hfl
    rw [List.length_append] at this
    refine wp_mono this (fun q hq => ⟨?_, ?_, hq.2.2⟩)
    · rw [hq.1]
      have ec : a_inDeal s d (t :: rest) = a_inDeal s d rest + if (a_isP (i s) (i d) t || a_isT (i s) (i d) t) = true then 1 else 0 := List.countP_cons
      rw [ec]
      congr 1
      omega
    · have h9 := hq.2.1
      rw [← app3] at h9
      rw [List.map_cons]
      exact h9
theorem M_commit_S {n s B0 : Nat} (hB0 : 18300 ≤ B0) {now lat : Nat} {line : List Nat} {dl : Nat → Nat} {dr : Nat → List FV} {pt : Nat → Nat → List Fm} {la : Nat → Int32} {jo : Nat → Nat} {tk : Nat → Bool} {fn : Nat → Fq} (hn : n ≤ 4) (hs : s < n) (hds : dl s = 1) :
    ∀ (rest done : List Tp) (f c : Nat) (sv : Bool) (os : List Od) (σ : J), mA n σ (now, lat, done ++ rest, line, dl, dr, pt, la, jo, tk, fn, os) → (∀ t ∈ done ++ rest, okFs (t_fs t)) → (∀ o ∈ os, okGs o.1 ∧ o.2.1.length ≤ 5) → os.length ≤ 6 → wfA n (now, lat, done ++ (a_settle s rest os).1, line, va_up dl s 0, dr, pt, la, jo, tk, fn, (a_settle s rest os).2.1) → rest.length + B0 ≤ f → wp (M_commit_L63 n f (i s) 0 (b01 sv) (i c) (i done.length) σ) (fun q => q.1 = i (c + a_inDeal s 1 rest) ∧ mA n q.2 ((if (sv || (a_settle s rest os).2.2) = true then a_served else id) (now, lat, done ++ (a_settle s rest os).1, line, va_up dl s 0, dr, pt, la, jo, tk, fn, (a_settle s rest os).2.1)) ∧ q.2.1 24 0 0 = σ.1 24 0 0) := by
  intro rest
  induction rest with
  | nil =>
    intro done f c sv os σ hA hfs hok hl6 hwf hf
    obtain ⟨f, rfl⟩ : ∃ g, f = g + 1 := ⟨f - 1, by omega⟩
    have hB := hA.2.2.2.1
    have h1 := hB.1
    have h20 := hB.2.1
    rw [List.append_nil] at h1 h20
    show wp (M_commit_b63 n (M_commit_L63 n f) f (i s) 0 (b01 sv) (i c) (i done.length) σ) _
    unfold M_commit_b63 M_commit_b232
    simp only [bs_eq]
    have his : q_in (i s) 4 = true := by rw [i_in (by omega)]; omega
    refine wp_ite (fun _ => ?_) (fun q_ => absurd (show σ.1 24 1 0 ≤ i done.length by rw [h1, i_le (by omega) (by omega)]; omega) q_)
    refine wp_ite (fun _ => ?_) (fun q_ => absurd (his) q_)
    refine wp_ite (fun _ => ?_) (fun q_ => absurd (his) q_)
    rw [i_n (by omega), hA.2.2.2.2.2.1 s hs, hds, l1, i_sub (by omega)]
    have hA2 : mA n (q_sA σ 34 0 (upd (σ.2.1 34 0) s (i (1 - 1)))) (now, lat, done ++ [], line, va_up dl s 0, dr, pt, la, jo, tk, fn, os) := mA_34 hA (mf.rf.sA rfl) (fun y => rfl)
    cases sv with
    | false =>
      refine wp_ite (fun _ => ?_) (fun q_ => absurd (show b01 false = 0 from rfl) q_)
      exact wp_s ⟨rfl, hA2, rfl⟩
    | true =>
      refine wp_ite (fun q_ => absurd q_ (show ¬ b01 true = 0 by decide)) (fun _ => ?_)
      refine wp_bind (M_serve_s hA2 hwf (by omega)) (fun τ hτ => ?_)
      exact wp_s ⟨rfl, hτ.1, hτ.2⟩
  | cons t rest ih =>
    intro done f c sv os σ hA hfs hok hl6 hwf hf
    obtain ⟨f, rfl⟩ : ∃ g, f = g + 1 := ⟨f - 1, by omega⟩
    have hfl : rest.length + B0 ≤ f := by simp at hf; omega
    have hB := hA.2.2.2.1
    have h1 := hB.1
    have h20 := hB.2.1
    have hlen : (done ++ t :: rest).length = done.length + rest.length + 1 := by simp; omega
    have hT := hB.2.2 done.length t get_mid
    show wp (M_commit_b63 n (M_commit_L63 n f) f (i s) 0 (b01 sv) (i c) (i done.length) σ) _
    rw [M_commit_step (t := t) (d := 1) (show s < 4 by omega) (Nat.le_refl _) hT (by omega) (by rw [← hds]; exact hA.2.2.2.2.2.1 s hs) (by rw [h1, i_le (by omega) (by omega)]; omega)]
    have hB2 := hand_B (s := s) (d := 1) (by omega) hB
    have hO := hA.2.2.2.2.2.2.2.2.2.2.2.1
    have h52 := hA.2.2.2.2.2.2.2.2.2.2.2.2
    have ec : a_inDeal s 1 (t :: rest) = a_inDeal s 1 rest + if (a_isP (i s) (i 1) t || a_isT (i s) (i 1) t) = true then 1 else 0 := List.countP_cons
    have hfs2 : ∀ u ∈ done ++ rest, okFs (t_fs u) := fun u hu => hfs u (by
      rcases List.mem_append.mp hu with q | q
      · exact List.mem_append_left _ q
      · exact List.mem_append_right _ (List.mem_cons_of_mem _ q))
    have hfs3 : ∀ u ∈ done ++ a_hand1 s 1 t :: rest, okFs (t_fs u) := fun u hu => by
      rcases List.mem_append.mp hu with q | q
      · exact hfs2 u (List.mem_append_left _ q)
      · rcases List.mem_cons.mp q with q | q
        · rw [q, hand_fs]; exact hfs t (by simp)
        · exact hfs2 u (List.mem_append_right _ q)
    cases hk : a_isT (i s) (i 1) t with
    | true =>
      rw [if_pos ⟨rfl, rfl⟩]
      rw [hk] at hB2
      have hse : a_settle s (t :: rest) os = a_settle s rest os := by
        show (if a_isT (i s) (i 1) t = true then _ else _) = _
        rw [if_pos hk]
      rw [hse] at hwf ⊢
      refine wp_bind (M_remove_s (n := n) (f := f) (r := done.length) hB2 (fun u hu => (hfs3 u hu).1) (by simp) (by omega)) (fun τ hτ => ?_)
      obtain ⟨t1, t2⟩ := hτ
      rw [erase_mid] at t2
      have hf2 : mf Kc F1 σ τ := mHd_f.tr (t1.up (fun k q => Or.inl q) (fun f q => q))
      have hA2 := mA_tso hA hf2 t2 ((mHd_O hO).fr t1 (fun k _ _ => by unfold Kr; omega) (by unfold Kr; omega) (by unfold Kr; omega) (by unfold Kr; omega) (by unfold F1; omega)) (fun v hv => by rw [(t1.1 52 (by unfold Kr; omega)).1]; exact h52 v hv)
      refine wp_mono (ih done f (c + 1) sv os τ hA2 hfs2 hok hl6 hwf hfl) (fun q hq => ⟨?_, hq.2.1, hq.2.2.trans (hf2.2 0 (by unfold F1; omega))⟩)
      rw [hq.1, ec, hk, Bool.or_true, if_pos rfl]
      congr 1
      omega
    | false =>
      rw [if_neg (fun q => by cases q.1)]
      rw [hk] at hB2
      cases hp : a_isP (i s) (i 1) t with
      | true =>
        rw [if_pos ⟨rfl, rfl⟩]
        rw [hp] at hB2
        have hst : t_setP (a_hand1 s 1 t) im im = t_setP t im im := by
          unfold a_hand1
          rw [hp, if_pos rfl]
          dsimp only
          rw [isT_setP, hk, if_neg (show ¬ false = true by decide)]
          rfl
        have hse : a_settle s (t :: rest) os = (t_setP t im im :: (a_settle s rest (a_report (t_setP t im im) os)).1, (a_settle s rest (a_report (t_setP t im im) os)).2.1, true) := by
          show (if a_isT (i s) (i 1) t = true then _ else if a_isP (i s) (i 1) t = true then _ else _) = _
          rw [if_neg (by rw [hk]; decide), if_pos hp]
        rw [hse] at hwf ⊢
        dsimp only at hwf ⊢
        refine wp_bind (M_outside_s (n := n) (f := f) (j := done.length) (t := a_hand1 s 1 t) get_mid (by rw [hand_fs]; exact hfs t (by simp)) hok hl6 (mHd_O hO) hB2 h52 (by omega)) (fun τ hτ => ?_)
        obtain ⟨t1, t2, t3, t4⟩ := hτ
        rw [set_mid, hst] at t2
        rw [hst] at t3
        have hf2 : mf Kc F1 σ τ := mHd_f.tr (t1.up (fun k q => Or.inr q) (fun f q => q.elim))
        have hA2 := mA_tso hA hf2 t2 t3 t4
        rw [app3] at hA2 hwf
        have := ih (done ++ [t_setP t im im]) f (c + 1) true (a_report (t_setP t im im) os) τ hA2 (fun u hu => by
          rw [← app3] at hu
          rcases List.mem_append.mp hu with q | q
          · exact hfs2 u (List.mem_append_left _ q)
          · rcases List.mem_cons.mp q with q | q
            · rw [q]; exact hfs t (by simp)
            · exact hfs2 u (List.mem_append_right _ q)) (okOs_add hok) (by rw [a_report_len]; exact hl6) hwf hfl
        rw [List.length_append] at this
        refine wp_mono this (fun q hq => ⟨?_, ?_, hq.2.2.trans (hf2.2 0 (by unfold F1; omega))⟩)
        · rw [hq.1, ec, hp, Bool.true_or, if_pos rfl]
          congr 1
          omega
        · have h9 := hq.2.1
          rw [Bool.true_or] at h9
          rw [Bool.or_true, app3]
          exact h9
      | false =>
        rw [if_neg (fun q => by cases q.1)]
        rw [hp] at hB2
        have hh : a_hand1 s 1 t = t := by
          unfold a_hand1
          rw [hp, if_neg (show ¬ false = true by decide)]
          dsimp only
          rw [hk, if_neg (show ¬ false = true by decide)]
        rw [hh] at hB2
        have hse : a_settle s (t :: rest) os = (t :: (a_settle s rest os).1, (a_settle s rest os).2.1, (a_settle s rest os).2.2) := by
          show (if a_isT (i s) (i 1) t = true then _ else if a_isP (i s) (i 1) t = true then _ else _) = _
          rw [if_neg (by rw [hk]; decide), if_neg (by rw [hp]; decide)]
        rw [hse] at hwf ⊢
        dsimp only at hwf ⊢
        have hA2 := mA_tso hA mHd_f hB2 (mHd_O hO) h52
        rw [app3] at hA2 hwf
        have := ih (done ++ [t]) f (c + if (false || false) = true then 1 else 0) sv os _ hA2 (fun u hu => by rw [← app3] at hu; exact hfs u hu) hok hl6 hwf hfl
        rw [List.length_append] at this
        refine wp_mono this (fun q hq => ⟨?_, ?_, hq.2.2⟩)
        · rw [hq.1, ec, hp, hk]
          congr 1
        · rw [app3]; exact hq.2.1
theorem M_commit_s {n f : Nat} {x : Int32} {a : Sq} {σ : J} (hA : mA n σ a) (hw : wfA n a) (hf : 18500 ≤ f) : wp (M_commit n f x σ) (fun q => mR id (o_commit n x a).1 q ∧ mA n q.2 (o_commit n x a).2) := by
  obtain ⟨now, lat, ts, line, dl, dr, pt, la, jo, tk, fn, os⟩ := a
  have hw' := hw
  obtain ⟨w1, w2, w3, w4, w5, w6, w7, w8, w9, w10, w11, w12, w13⟩ := hw'
  unfold M_commit M_commit_b0 M_commit_b26 M_commit_b38 M_commit_b54 o_commit
  simp only [bs_eq]
  refine wp_e (M_first_a (r := true) hA hw (by omega)) ?_
  cases hfi : a_first n line x with
  | inr e =>
    have he := e12 (first_e hfi)
    refine wp_ite (fun _ => ?_) (fun q_ => absurd (show 0 < i e from lt_of_nle (i_nle0 he)) q_)
    refine wp_ite (fun q_ => absurd q_ (show ¬ i e ≤ 0 from i_nle0 he)) (fun _ => ?_)
    exact wp_s ⟨rfl, mA_code hA⟩
  | inl s =>
    obtain ⟨hs, hxs, -⟩ := first_i w13 hfi
    have hxn : x.toNatClampNeg = s := by rw [hxs, i_n (by omega)]
    have his : q_in x 4 = true := by rw [hxs, i_in (by omega)]; omega
    have hA2 := mA_code (v := i 0) hA
    have hd4 := w4 s hs
    have h20 := hA.2.2.2.1.2.1
    dsimp only
    refine wp_ite (fun q_ => absurd q_ (show ¬ 0 < i 0 by decide)) (fun _ => ?_)
    refine wp_ite (fun _ => ?_) (fun q_ => absurd (his) q_)
    have h34 : σ.2.1 34 0 x.toNatClampNeg = i (dl s) := by rw [hxn]; exact hA.2.2.2.2.2.1 s hs
    by_cases hd : dl s = 0
    · rw [if_pos hd]
      refine wp_ite (fun _ => ?_) (fun q_ => absurd (show σ.2.1 34 0 x.toNatClampNeg = 0 by rw [h34, hd]; rfl) q_)
      refine wp_ite (fun _ => ?_) (fun q_ => absurd (show i 0 ≤ 0 by decide) q_)
      exact wp_s ⟨⟨rfl, rfl⟩, hA2⟩
    · rw [if_neg hd]
      refine wp_ite (fun q_ => absurd q_ (show ¬ σ.2.1 34 0 x.toNatClampNeg = 0 by rw [h34, l0, i_eq (by omega) (by decide)]; exact hd)) (fun _ => ?_)
      refine wp_ite (fun _ => ?_) (fun q_ => absurd (his) q_)
      by_cases h1 : dl s = 1
      · dsimp only
        rw [if_pos h1, h1]
        refine wp_ite (fun _ => ?_) (fun q_ => absurd (show σ.2.1 34 0 x.toNatClampNeg ≤ 1 by rw [h34, h1]; decide) q_)
        rw [hxs]
        refine wp_mono (M_commit_S (B0 := 18300) (Nat.le_refl _) w13 hs h1 ts [] f 0 false os _ hA2 (fun t ht => (w1.2 t ht).2.2.2.2) w9 w10 (wfA_settle hw hs h1) (by omega)) (fun q hq => ⟨⟨?_, hq.2.2⟩, hq.2.1⟩)
        rw [hq.1, Nat.zero_add]
      · dsimp only
        rw [if_neg h1]
        refine wp_ite (fun q_ => absurd q_ (show ¬ σ.2.1 34 0 x.toNatClampNeg ≤ 1 by rw [h34, l1, i_le (by omega) (by decide)]; omega)) (fun _ => ?_)
        rw [hxs]
        refine wp_mono (M_commit_H (d := dl s) w13 hs ⟨by omega, hd4⟩ rfl ts [] f 0 _ hA2 (by omega)) (fun q hq => ⟨⟨?_, hq.2.2⟩, hq.2.1⟩)
        rw [hq.1, Nat.zero_add]
