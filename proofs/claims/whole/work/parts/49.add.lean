/-! The class's board: looking up, closing gaps, adding. Ours. -/
/-- a tuple is looked up: its object, and the board with that object changed -/
theorem Board_lookUp_s {n f : Nat} {σ : J} {ts : List Tp} {N : Int32} (h : cB σ ts) (hf : 30 ≤ f) : (Board_lookUp n f N σ = some (none, σ) ∧ ∀ t ∈ ts, t_num t ≠ N) ∨ ∃ z t pre post, z < 20 ∧ Board_lookUp n f N σ = some (some z, σ) ∧ ts = pre ++ t :: post ∧ cT σ z t ∧ t_num t = N ∧ ∀ τ : J, fr (fun a b => a = 4 ∧ b = z) σ τ → (τ.1 4 0 z = i 0 → cB τ (pre ++ post)) ∧ ∀ t1, cT τ z t1 → cB τ (pre ++ t1 :: post) := by
  obtain ⟨u, h1, h2, h3, h4⟩ := h
  rcases Board_lookUp_L (n := n) (N := N) h1 h2 h3 u 0 f ts h4 (by omega) (by omega) with g | ⟨r, t, g1, g2, g3, g4, g5, g6⟩
  · exact Or.inl g
  · obtain ⟨t2, pre, post, e1, e2, e3⟩ := Rw_hole h3 h4 (by omega) (Nat.zero_le r) (by omega) g4.1
    have hN : t_num t2 = N := by rw [← e2.2.1, g4.2.1]; exact g5
    refine Or.inr ⟨σ.2.2.2 3 0 r, t2, pre, post, h3.1 r (by omega), g3, e1, e2, hN, fun τ hτ => ⟨fun h0 => ⟨u, h1, ?_, ?_, ?_⟩, fun t1 ht1 => ⟨u, h1, ?_, ?_, ?_⟩⟩⟩
    · rw [(hτ 2 0 (by omega)).1]; exact h2
    · rw [hτ.P3 (by omega)]; exact h3
    · rw [hτ.P3 (by omega)]; exact (e3 τ hτ).1 h0
    · rw [(hτ 2 0 (by omega)).1]; exact h2
    · rw [hτ.P3 (by omega)]; exact h3
    · rw [hτ.P3 (by omega)]; exact (e3 τ hτ).2 t1 ht1
theorem nodup_mid {pre post : List Tp} {t : Tp} (h : ((pre ++ t :: post).map t_num).Nodup) : (∀ u ∈ pre, t_num u ≠ t_num t) ∧ ∀ u ∈ post, t_num u ≠ t_num t := by
  rw [List.map_append, List.map_cons, List.nodup_append] at h
  obtain ⟨h1, h2, h3⟩ := h
  rw [List.nodup_cons] at h2
  exact ⟨fun u hu => h3 _ (List.mem_map_of_mem hu) _ List.mem_cons_self, fun u hu e => h2.1 (e ▸ List.mem_map_of_mem hu)⟩
theorem filter_mid {pre post : List Tp} {t : Tp} {N : Int32} (h : ((pre ++ t :: post).map t_num).Nodup) (hN : t_num t = N) : (pre ++ t :: post).filter (fun u => decide (t_num u ≠ N)) = pre ++ post := by
  obtain ⟨h1, h2⟩ := nodup_mid h
  rw [List.filter_append, List.filter_cons, if_neg (by simp [hN])]
  rw [List.filter_eq_self.mpr (fun u hu => by rw [← hN]; exact decide_eq_true (h1 u hu)), List.filter_eq_self.mpr (fun u hu => by rw [← hN]; exact decide_eq_true (h2 u hu))]
theorem map_mid {pre post : List Tp} {t : Tp} {N : Int32} {g : Tp → Tp} (h : ((pre ++ t :: post).map t_num).Nodup) (hN : t_num t = N) : (pre ++ t :: post).map (fun u => if t_num u = N then g u else u) = pre ++ g t :: post := by
  obtain ⟨h1, h2⟩ := nodup_mid h
  rw [List.map_append, List.map_cons, if_pos hN]
  have : ∀ {l : List Tp}, (∀ u ∈ l, t_num u ≠ t_num t) → l.map (fun u => if t_num u = N then g u else u) = l := by
    intro l hl
    rw [List.map_congr_left (g := id) (fun u hu => by rw [if_neg (by rw [← hN]; exact hl u hu)]; rfl), List.map_id]
  rw [this h1, this h2]
theorem filter_none {ts : List Tp} {N : Int32} (h : ∀ t ∈ ts, t_num t ≠ N) : ts.filter (fun u => decide (t_num u ≠ N)) = ts := List.filter_eq_self.mpr (fun u hu => decide_eq_true (h u hu))
theorem map_none {ts : List Tp} {N : Int32} {g : Tp → Tp} (h : ∀ t ∈ ts, t_num t ≠ N) : ts.map (fun u => if t_num u = N then g u else u) = ts := by
  rw [List.map_congr_left (g := id) (fun u hu => by rw [if_neg (h u hu)]; rfl), List.map_id]
/-- two rows change places -/
def swp (P : Nat → Nat) (a b : Nat) : Nat → Nat := va_up (va_up P b (P a)) a (P b)
theorem swp_a {P : Nat → Nat} {a b : Nat} : swp P a b a = P b := va_up_self _ _ _
theorem swp_b {P : Nat → Nat} {a b : Nat} : swp P a b b = P a := by
  unfold swp va_up
  by_cases h : b = a
  · rw [if_pos h, h]
  · rw [if_neg h, if_pos rfl]
theorem swp_o {P : Nat → Nat} {a b c : Nat} (h1 : c ≠ a) (h2 : c ≠ b) : swp P a b c = P c := by
  unfold swp va_up
  rw [if_neg h1, if_neg h2]
theorem swp_ok {P : Nat → Nat} {a b : Nat} (h : okP P) (ha : a < 20) (hb : b < 20) : okP (swp P a b) := by
  have key : ∀ c, c < 20 → ∃ d, d < 20 ∧ swp P a b c = P d ∧ (d = if c = a then b else if c = b then a else c) := by
    intro c hc
    by_cases h1 : c = a
    · subst h1; exact ⟨b, hb, swp_a, by rw [if_pos rfl]⟩
    · by_cases h2 : c = b
      · subst h2; exact ⟨a, ha, swp_b, by rw [if_neg h1, if_pos rfl]⟩
      · exact ⟨c, hc, swp_o h1 h2, by rw [if_neg h1, if_neg h2]⟩
  refine ⟨fun c hc => ?_, fun c d hc hd he => ?_⟩
  · obtain ⟨e, h1, h2, -⟩ := key c hc
    rw [h2]; exact h.1 e h1
  · obtain ⟨e, h1, h2, h3⟩ := key c hc
    obtain ⟨g, k1, k2, k3⟩ := key d hd
    rw [h2, k2] at he
    have := h.2 e g h1 k1 he
    rw [h3, k3] at this
    split at this <;> split at this <;> (try split at this) <;> (try split at this) <;> omega
theorem Rw_P {P P1 : Nat → Nat} {σ : J} : ∀ {m j : Nat} {ts : List Tp}, (∀ r, j ≤ r → r < j + m → P1 r = P r) → Rw P σ j m ts → Rw P1 σ j m ts := by
  intro m
  induction m with
  | zero => intro j ts _ h; exact h
  | succ m ih =>
    intro j ts hP h
    have h0 := hP j (Nat.le_refl _) (by omega)
    rcases h with ⟨h1, h2⟩ | ⟨t, ts1, h1, h2, h3⟩
    · exact Or.inl ⟨by rw [h0]; exact h1, ih (fun r a b => hP r (by omega) (by omega)) h2⟩
    · exact Or.inr ⟨t, ts1, h1, by rw [h0]; exact h2, ih (fun r a b => hP r (by omega) (by omega)) h3⟩
theorem Rw_snoc {P : Nat → Nat} {σ : J} {t : Tp} : ∀ {m j : Nat} {ts : List Tp}, Rw P σ j m ts → cT σ (P (j + m)) t → Rw P σ j (m + 1) (ts ++ [t]) := by
  intro m
  induction m with
  | zero =>
    intro j ts h ht
    rw [show ts = [] from h]
    exact Or.inr ⟨t, [], rfl, ht, rfl⟩
  | succ m ih =>
    intro j ts h ht
    rw [show j + (m + 1) = j + 1 + m by omega] at ht
    rcases h with ⟨h1, h2⟩ | ⟨t2, ts1, rfl, h2, h3⟩
    · exact Or.inl ⟨h1, ih h2 ht⟩
    · exact Or.inr ⟨t2, ts1 ++ [t], rfl, h2, ih h3 ht⟩
theorem Board_closeGaps_L {n u : Nat} (hu : u ≤ 20) : ∀ (m j k f : Nat) (σ : J) (done rest : List Tp), σ.1 2 1 0 = i u → okP (σ.2.2.2 3 0) → Rw (σ.2.2.2 3 0) σ 0 k done → done.length = k → (∀ r, k ≤ r → r < j → σ.1 4 0 (σ.2.2.2 3 0 r) = i 0) → Rw (σ.2.2.2 3 0) σ j m rest → j + m = u → k ≤ j → m < f → wp (Board_closeGaps_L4 n f (i k) (i j) σ) (fun τ => fr (fun a b => (a = 2 ∨ a = 3) ∧ b = 0) σ τ ∧ τ.1 2 1 0 = i (done ++ rest).length ∧ τ.1 2 2 0 = σ.1 2 2 0 ∧ okP (τ.2.2.2 3 0) ∧ Rw (τ.2.2.2 3 0) τ 0 (done ++ rest).length (done ++ rest)) := by
  intro m
  induction m with
  | zero =>
    intro j k f σ done rest hu1 hP h1 h2 h3 h4 hj hk hf
    obtain ⟨f, rfl⟩ : ∃ g, f = g + 1 := ⟨f - 1, by omega⟩
    rw [show rest = [] from h4, List.append_nil]
    unfold Board_closeGaps_L4 Board_closeGaps_b4
    rw [hu1, if_pos (by rw [i_le (by omega) (by omega)]; omega), bs_eq, wp_some, h2]
    have hf1 : fr (fun a b => (a = 2 ∨ a = 3) ∧ b = 0) σ (q_sI σ 2 1 0 (i k)) := fr.rf.sI ⟨Or.inl rfl, rfl⟩
    refine ⟨hf1, by rw [sI1, if_pos ⟨rfl, rfl, rfl⟩], by rw [sI1, if_neg (by omega)], hP, h1.fr hf1 (fun r _ _ => ⟨by omega, by omega, by omega, by omega⟩)⟩
  | succ m ih =>
    intro j k f σ done rest hu1 hP h1 h2 h3 h4 hj hk hf
    obtain ⟨f, rfl⟩ : ∃ g, f = g + 1 := ⟨f - 1, by omega⟩
    have hPj : Nat.blt (σ.2.2.2 3 0 j) 20 = true := by rw [blt_eq]; exact hP.1 j (by omega)
    have hPk : Nat.blt (σ.2.2.2 3 0 k) 20 = true := by rw [blt_eq]; exact hP.1 k (by omega)
    have hin : q_in (i j) 20 = true := by rw [i_in (by omega)]; omega
    have hik : q_in (i k) 20 = true := by rw [i_in (by omega)]; omega
    unfold Board_closeGaps_L4 Board_closeGaps_b4 Board_closeGaps_b48
    rw [hu1, if_neg (by rw [i_le (by omega) (by omega)]; omega), if_pos hin, i_n (by omega), if_pos hPj, if_pos hik, i_n (by omega), if_pos hPk, if_pos hin]
    simp only [bs_eq, hik, if_true, l1, i_add]
    rcases h4 with ⟨g1, g2⟩ | ⟨t, ts1, rfl, g2, g3⟩
    · rw [g1, if_pos (show i 0 = 0 from rfl)]
      exact ih (j + 1) k f σ done rest hu1 hP h1 h2 (fun r a b => by
        by_cases hr : r = j
        · rw [hr]; exact g1
        · exact h3 r a (by omega)) g2 (by omega) (by omega) (by omega)
    · rw [g2.1, if_neg (by decide)]
      have e1 : (q_sP (q_sP σ 3 0 (va_up (σ.2.2.2 3 0) j (σ.2.2.2 3 0 k))) 3 0 (va_up ((q_sP σ 3 0 (va_up (σ.2.2.2 3 0) j (σ.2.2.2 3 0 k))).2.2.2 3 0) k (σ.2.2.2 3 0 j))).2.2.2 3 0 = swp (σ.2.2.2 3 0) k j := by
        rw [sP4, if_pos ⟨rfl, rfl⟩, sP4, if_pos ⟨rfl, rfl⟩]
        rfl
      generalize hσ1 : (q_sP (q_sP σ 3 0 (va_up (σ.2.2.2 3 0) j (σ.2.2.2 3 0 k))) 3 0 (va_up ((q_sP σ 3 0 (va_up (σ.2.2.2 3 0) j (σ.2.2.2 3 0 k))).2.2.2 3 0) k (σ.2.2.2 3 0 j))) = σ1 at e1 ⊢
      have hf1 : fr (fun a b => (a = 2 ∨ a = 3) ∧ b = 0) σ σ1 := by
        rw [← hσ1]
        exact (fr.rf.sP ⟨Or.inr rfl, rfl⟩).sP ⟨Or.inr rfl, rfl⟩
      have h22 : ∀ x y z, σ1.1 x y z = σ.1 x y z := by rw [← hσ1]; intro x y z; rfl
      have hz : ∀ {P : Nat → Nat} {a b : Nat} {ts : List Tp}, Rw P σ a b ts → Rw P σ1 a b ts := fun h => h.fr hf1 (fun r _ _ => ⟨by omega, by omega, by omega, by omega⟩)
      have hT : cT σ1 (σ.2.2.2 3 0 j) t := g2.fr hf1 (by omega) (by omega) (by omega) (by omega)
      have hd : Rw (swp (σ.2.2.2 3 0) k j) σ1 0 (k + 1) (done ++ [t]) := by
        refine Rw_snoc (Rw_P (fun r a b => swp_o (by omega) (by omega)) (hz h1)) ?_
        rw [Nat.zero_add, swp_a]
        exact hT
      have := ih (j + 1) (k + 1) f σ1 (done ++ [t]) ts1 (by rw [h22]; exact hu1) (by rw [e1]; exact swp_ok hP (by omega) (by omega)) (by rw [e1]; exact hd) (by rw [List.length_append, h2]; rfl) (fun r a b => by
        rw [e1, h22]
        by_cases hr : r = j
        · subst hr
          rw [swp_b]
          exact h3 k (Nat.le_refl _) (by omega)
        · rw [swp_o (by omega) hr]
          exact h3 r (by omega) (by omega)) (by
        rw [e1]
        exact Rw_P (fun r a b => swp_o (by omega) (by omega)) (hz g3)) (by omega) (by omega) (by omega)
      rw [List.append_assoc] at this
      refine wp_mono this (fun τ hτ => ⟨hf1.tr hτ.1, hτ.2.1, by rw [hτ.2.2.1, h22], hτ.2.2.2⟩)

theorem Tuple_begin_s {n z y : Nat} {σ : J} {N e : Int32} {xs : List FV} (h : cF σ y xs) (hl : xs.length ≤ 4) (hz : z ≠ y) : wp (Tuple_begin n z N y e σ) (fun τ => cT τ z (N, e, im, im, im, im, xs) ∧ fr (fun a b => 4 ≤ a ∧ a ≤ 7 ∧ b = z) σ τ) := by
  unfold Tuple_begin Tuple_begin_b0
  simp only [and1_1, if_true, bs_eq]
  refine wp_bind (Fields_copyFrom_s (n := n) (((h.sI (by decide)).sI (by decide)).sI (by decide)) hl hz) (fun τ hτ => ?_)
  rw [Tuple_putOutside_q, some_bind, Tuple_giveBack_q, some_bind, wp_some]
  have h4 : ∀ f, τ.1 4 f z = _ := (hτ.2 4 z (by omega)).1
  refine ⟨⟨?_, ?_, ?_, ?_, ?_, ?_, ?_, (((hτ.1.sI (by decide)).sI (by decide)).sI (by decide)).sI (by decide)⟩, ?_⟩
  · simp (disch := omega) only [sI1, if_pos, if_neg, if_true, and_self, h4]; rfl
  · simp (disch := omega) only [sI1, if_pos, if_neg, if_true, and_self, h4]; rfl
  · simp (disch := omega) only [sI1, if_pos, if_neg, if_true, and_self, h4]; rfl
  · simp (disch := omega) only [sI1, if_pos, if_neg, if_true, and_self, h4]; rfl
  · simp (disch := omega) only [sI1, if_pos, if_neg, if_true, and_self, h4]; rfl
  · simp (disch := omega) only [sI1, if_pos, if_neg, if_true, and_self, h4]; rfl
  · simp (disch := omega) only [sI1, if_pos, if_neg, if_true, and_self, h4]; rfl
  · have h0 : fr (fun a b => 4 ≤ a ∧ a ≤ 7 ∧ b = z) σ (q_sI (q_sI (q_sI σ 4 0 z 1) 4 1 z N) 4 2 z e) := ((fr.rf.sI (by omega)).sI (by omega)).sI (by omega)
    have h1 : fr (fun a b => 4 ≤ a ∧ a ≤ 7 ∧ b = z) σ τ := h0.tr (hτ.2.up (fun k w q => by omega))
    exact (((h1.sI (by omega)).sI (by omega)).sI (by omega)).sI (by omega)
/-- what adding may change -/
def Za : Nat → Nat → Prop := fun a b => ((a = 2 ∨ a = 3) ∧ b = 0) ∨ (4 ≤ a ∧ a ≤ 7 ∧ b < 20)
theorem Board_add_s {n f y lat : Nat} {σ : J} {ts : List Tp} {e : Int32} {xs : List FV} (h : cB σ ts) (hlat : σ.1 2 2 0 = i lat) (hx : cF σ y xs) (hl : xs.length ≤ 4) (hy : 20 ≤ y) (ht : ts.length < 20) (hf : 30 ≤ f) : wp (Board_add n f y e σ) (fun q => q.1 < 20 ∧ cT q.2 q.1 (i (lat + 1), e, im, im, im, im, xs) ∧ fr Za σ q.2 ∧ q.2.1 2 2 0 = i (lat + 1) ∧ (cB q.2 (ts ++ [(i (lat + 1), e, im, im, im, im, xs)]) ∧ ∀ τ : J, fr (fun a b => a = 4 ∧ b = q.1) q.2 τ → ∀ t1, cT τ q.1 t1 → cB τ (ts ++ [t1]))) := by
  obtain ⟨u, h1, h2, h3, h4⟩ := h
  unfold Board_add Board_add_b0 Board_closeGaps Board_closeGaps_b0
  refine wp_bind (Board_closeGaps_L (n := n) h1 u 0 0 f σ [] ts h2 h3 rfl rfl (fun r a b => by omega) h4 (by omega) (by omega) (by omega)) (fun τ hτ => ?_)
  rw [List.nil_append] at hτ
  obtain ⟨t1, t2, t3, t4, t5⟩ := hτ
  rw [t2]
  have hin : q_in (i ts.length) 20 = true := by rw [i_in (by omega)]; omega
  have hz := t4.1 ts.length ht
  rw [if_pos hin, i_n (by omega), if_pos (by rw [blt_eq]; exact hz)]
  simp only [bs_eq]
  have e1 : (q_sI (q_sI τ 2 1 0 (i ts.length + 1)) 2 2 0 ((q_sI τ 2 1 0 (i ts.length + 1)).1 2 2 0 + 1)).1 2 2 0 = i (lat + 1) := by
    rw [sI1, if_pos ⟨rfl, rfl, rfl⟩, sI1, if_neg (by omega), t3, hlat, l1, i_add]
  have e2 : (q_sI (q_sI τ 2 1 0 (i ts.length + 1)) 2 2 0 ((q_sI τ 2 1 0 (i ts.length + 1)).1 2 2 0 + 1)).1 2 1 0 = i (ts.length + 1) := by
    rw [sI1, if_neg (by omega), sI1, if_pos ⟨rfl, rfl, rfl⟩, l1, i_add]
  have hfr : fr (fun a b => (a = 2 ∨ a = 3) ∧ b = 0) σ (q_sI (q_sI τ 2 1 0 (i ts.length + 1)) 2 2 0 ((q_sI τ 2 1 0 (i ts.length + 1)).1 2 2 0 + 1)) := (t1.sI ⟨Or.inl rfl, rfl⟩).sI ⟨Or.inl rfl, rfl⟩
  have e3 : (q_sI (q_sI τ 2 1 0 (i ts.length + 1)) 2 2 0 ((q_sI τ 2 1 0 (i ts.length + 1)).1 2 2 0 + 1)).2 = τ.2 := rfl
  have hRw : Rw (τ.2.2.2 3 0) (q_sI (q_sI τ 2 1 0 (i ts.length + 1)) 2 2 0 ((q_sI τ 2 1 0 (i ts.length + 1)).1 2 2 0 + 1)) 0 ts.length ts := t5.fr (Z := fun a b => (a = 2 ∨ a = 3) ∧ b = 0) ((fr.rf.sI ⟨Or.inl rfl, rfl⟩).sI ⟨Or.inl rfl, rfl⟩) (fun r _ _ => ⟨by omega, by omega, by omega, by omega⟩)
  generalize (q_sI (q_sI τ 2 1 0 (i ts.length + 1)) 2 2 0 ((q_sI τ 2 1 0 (i ts.length + 1)).1 2 2 0 + 1)) = σ1 at e1 e2 e3 hfr hRw ⊢
  rw [e1]
  refine wp_bind (Tuple_begin_s (n := n) (hx.fr hfr (by omega) (by omega) (by omega)) hl (by omega)) (fun υ hυ => ?_)
  rw [wp_some]
  have hP : υ.2.2.2 3 0 = τ.2.2.2 3 0 := by rw [(hυ.2 3 0 (by omega)).2.2.2, e3]
  have hrw : ∀ {ρ : J}, fr (fun a b => 4 ≤ a ∧ a ≤ 7 ∧ b = τ.2.2.2 3 0 ts.length) σ1 ρ → Rw (τ.2.2.2 3 0) ρ 0 ts.length ts := fun hρ => hRw.fr hρ (fun r _ hr => by
    have hne : τ.2.2.2 3 0 r ≠ τ.2.2.2 3 0 ts.length := fun q => by
      have := t4.2 r ts.length (by omega) ht q
      omega
    exact ⟨fun q => hne q.2.2, fun q => hne q.2.2, fun q => hne q.2.2, fun q => hne q.2.2⟩)
  have hu3 : υ.1 2 1 0 = i (ts.length + 1) := by rw [(hυ.2 2 0 (by omega)).1]; exact e2
  refine ⟨hz, hυ.1, (hfr.up (fun a b q => Or.inl q)).tr (hυ.2.up (fun a b q => Or.inr ⟨q.1, q.2.1, by rw [q.2.2]; exact hz⟩)), by rw [(hυ.2 2 0 (by omega)).1]; exact e1, ⟨ts.length + 1, by omega, hu3, by rw [hP]; exact t4, ?_⟩, fun ρ hρ t1 ht1 => ⟨ts.length + 1, by omega, by rw [(hρ 2 0 (by omega)).1]; exact hu3, by rw [hρ.P3 (by omega), hP]; exact t4, ?_⟩⟩
  · rw [hP]
    refine Rw_snoc (hrw hυ.2) ?_
    rw [Nat.zero_add]
    exact hυ.1
  · rw [hρ.P3 (by omega), hP]
    refine Rw_snoc (hrw (hυ.2.tr (hρ.up (fun a b q => by
      replace q : a = 4 ∧ b = τ.2.2.2 3 0 ts.length := q
      omega)))) ?_
    rw [Nat.zero_add]
    exact ht1
