/-! The reference: clearing, leaving the line, keeping what was found. Ours. -/
theorem M_search_s {n s joined f : Nat} {ts : List Tp} {pt : Nat → List Fm} {σ : J} (hn : n ≤ 4) (hs : s < n) (hj1 : 1 ≤ joined) (hj : joined ≤ 3) (hok : ∀ p, p < 3 → okGs (pt p)) (hts : okB n ts) (hf : 18000 ≤ f) (hB : mB σ ts) (hG : ∀ p, p < 3 → mG σ (3 * s + p) (pt p)) (h0 : ∀ v, v < 4 → σ.2.1 52 0 v = im) : wp (M_search n f (i s) (i joined) σ) (fun q => q.1 = b01 (a_search s ts pt joined).isSome ∧ mf (fun k => 52 ≤ k ∧ k ≤ 54) (fun _ => False) σ q.2 ∧ (∀ v, v < 4 → q.2.2.1 52 0 v = im) ∧ ∀ r, a_search s ts pt joined = some r → mAt q.2 ts r.1 ∧ mbd q.2 joined r.2) := by
  have hbf : Bf joined 20 ≤ 17300 := by
    match joined, hj1, hj with
    | 1, _, _ => decide
    | 2, _, _ => decide
    | 3, _, _ => decide
  unfold M_search M_search_b0
  rw [if_pos (show q_in 0 3 = true by decide), bs_eq, show (0 : Int32).toNatClampNeg = 0 from rfl, show (0 : Int32) = i 0 from rfl]
  have hs0 : seF 0 σ (q_sA σ 54 0 (upd (σ.2.1 54 0) 0 (-1))) := seF.rf.at
  have hsr : a_search s ts pt joined = ts.findSome? (a_try (i s) ts pt (joined - 1) 0 [] bd0) := by
    obtain ⟨k, rfl⟩ : ∃ k, joined = k + 1 := ⟨joined - 1, by omega⟩
    rfl
  refine M_search_L hn hs hj hok hts hB.2.1 joined hj1 20 ts hB.2.1 0 0 f [] bd0 _ _ (Nat.zero_add _) rfl (Nat.zero_le _) rfl (by omega) (fun p hp => hs0.G (hG p hp)) (fun j m hm => by cases hm) (hs0.B hB) (fun v hv => ?_) ?_ (fun τ f1 hf1 hτ hno => ?_) (fun τ r hτ hso hAr hbr => ?_)
  · show none = _
    rw [if_pos (by rw [show 4 * 0 + v = v by omega]; exact h0 v hv)]
  · show upd (σ.2.1 54 0) 0 (-1) 0 + 1 = i 0
    rw [upd_at]; rfl
  · obtain ⟨f1, rfl⟩ : ∃ g, f1 = g + 1 := ⟨f1 - 1, by omega⟩
    show wp (M_search_b9 n (M_search_L9 n f1) f1 (i s) (i joined) im τ) _
    unfold M_search_b9
    rw [if_pos (show im < 0 by decide)]
    simp only [and1_0, if_true, wp_some]
    rw [hsr, hno]
    have hst := hs0.tr hτ
    exact ⟨rfl, hst.1, fun v hv => by rw [(hst.2.1 v (by omega)).1]; exact h0 v hv, fun r e => by cases e⟩
  · have hst := hs0.tr hτ
    rw [hsr, hso]
    exact ⟨rfl, hst.1, fun v hv => by rw [(hst.2.1 v (by omega)).1]; exact h0 v hv, fun r' e => by cases e; exact ⟨hAr, hbr⟩⟩
def Kf : Nat → Prop := fun k => 46 ≤ k ∧ k ≤ 48
/-- other sessions' findings -/
def othF (s : Nat) (σ τ : J) : Prop := (∀ y, (y < 3 * s ∨ 3 * s + 3 ≤ y) → τ.2.1 46 0 y = σ.2.1 46 0 y) ∧ ∀ y, (y < 4 * s ∨ 4 * s + 4 ≤ y) → τ.2.1 47 0 y = σ.2.1 47 0 y ∧ τ.2.2.1 48 0 y = σ.2.2.1 48 0 y
theorem othF.tr {s : Nat} {σ τ υ : J} (h1 : othF s σ τ) (h2 : othF s τ υ) : othF s σ υ := ⟨fun y hy => (h2.1 y hy).trans (h1.1 y hy), fun y hy => ⟨(h2.2 y hy).1.trans (h1.2 y hy).1, (h2.2 y hy).2.trans (h1.2 y hy).2⟩⟩
theorem othF.N {s q : Nat} {σ τ : J} {r : Fq} (h : othF s σ τ) (hq : q ≠ s) (hN : mN σ q r) : mN τ q r := by
  refine ⟨fun j hj => ?_, fun v hv => ?_⟩
  · rw [h.1 (3 * q + j) (by omega)]; exact hN.1 j hj
  · rw [(h.2 (4 * q + v) (by omega)).1, (h.2 (4 * q + v) (by omega)).2]; exact hN.2 v hv
theorem M_clear_47 {n s : Nat} (hs : s < 4) : ∀ (m q f : Nat) (σ : J), q + m = 4 → m < f → wp (M_clear_L26 n f (i s) (i q) σ) (fun τ => mf (fun k => 47 ≤ k ∧ k ≤ 48) (fun _ => False) σ τ ∧ ∀ y, τ.2.1 47 0 y = (if 4 * s + q ≤ y ∧ y < 4 * s + 4 then im else σ.2.1 47 0 y) ∧ τ.2.2.1 48 0 y = if 4 * s + q ≤ y ∧ y < 4 * s + 4 then 0 else σ.2.2.1 48 0 y) := by
  intro m
  induction m with
  | zero =>
    intro q f σ hq hf
    obtain ⟨f, rfl⟩ : ∃ g, f = g + 1 := ⟨f - 1, by omega⟩
    show wp (M_clear_b26 n (M_clear_L26 n f) f (i s) (i q) σ) _
    unfold M_clear_b26
    rw [if_pos (by rw [l4, i_le (by decide) (by omega)]; omega), wp_some]
    exact ⟨mf.rf, fun y => by rw [if_neg (by omega), if_neg (by omega)]; exact ⟨rfl, rfl⟩⟩
  | succ m ih =>
    intro q f σ hq hf
    obtain ⟨f, rfl⟩ : ∃ g, f = g + 1 := ⟨f - 1, by omega⟩
    show wp (M_clear_b26 n (M_clear_L26 n f) f (i s) (i q) σ) _
    unfold M_clear_b26
    have h16 : q_in (i (4 * s + q)) 16 = true := by rw [i_in (by omega)]; omega
    rw [if_neg (by rw [l4, i_le (by decide) (by omega)]; omega), l4, i_mul, i_add, if_pos h16, bs_eq, if_pos h16, bs_eq, i_n (by omega), l1, i_add]
    refine wp_mono (ih (q + 1) f _ (by omega) (by omega)) (fun τ hτ => ⟨((mf.rf.sA ⟨by decide, by decide⟩).sL ⟨by decide, by decide⟩).tr hτ.1, fun y => ?_⟩)
    obtain ⟨t1, t2⟩ := hτ.2 y
    rw [t1, t2]
    show (if 4 * s + (q + 1) ≤ y ∧ y < 4 * s + 4 then im else upd (σ.2.1 47 0) (4 * s + q) (-1) y) = _ ∧ (if 4 * s + (q + 1) ≤ y ∧ y < 4 * s + 4 then 0 else vp_updL (σ.2.2.1 48 0) (4 * s + q) 0 y) = _
    unfold upd vp_updL
    by_cases e : y = 4 * s + q
    · rw [if_neg (by omega), if_pos e, if_pos (by omega), if_neg (by omega), if_pos e, if_pos (by omega)]; exact ⟨rfl, rfl⟩
    · by_cases e2 : 4 * s + (q + 1) ≤ y ∧ y < 4 * s + 4
      · rw [if_pos e2, if_pos (by omega), if_pos e2, if_pos (by omega)]; exact ⟨rfl, rfl⟩
      · rw [if_neg e2, if_neg e, if_neg (by omega), if_neg e2, if_neg e, if_neg (by omega)]; exact ⟨rfl, rfl⟩
theorem M_clear_46 {n s : Nat} (hs : s < 4) : ∀ (m q f : Nat) (σ : J), q + m = 3 → m + 10 ≤ f → wp (M_clear_L2 n f (i s) (i q) σ) (fun τ => mf Kf (fun _ => False) σ τ ∧ (∀ y, τ.2.1 46 0 y = if 3 * s + q ≤ y ∧ y < 3 * s + 3 then im else σ.2.1 46 0 y) ∧ ∀ y, τ.2.1 47 0 y = (if 4 * s ≤ y ∧ y < 4 * s + 4 then im else σ.2.1 47 0 y) ∧ τ.2.2.1 48 0 y = if 4 * s ≤ y ∧ y < 4 * s + 4 then 0 else σ.2.2.1 48 0 y) := by
  intro m
  induction m with
  | zero =>
    intro q f σ hq hf
    obtain ⟨f, rfl⟩ : ∃ g, f = g + 1 := ⟨f - 1, by omega⟩
    show wp (M_clear_b2 n (M_clear_L2 n f) f (i s) (i q) σ) _
    unfold M_clear_b2
    rw [if_pos (by rw [l3, i_le (by decide) (by omega)]; omega)]
    refine wp_mono (M_clear_47 (n := n) hs 4 0 f σ (by decide) (by omega)) (fun τ hτ => ⟨hτ.1.up (fun k q => by unfold Kf; omega) (fun f q => q), fun y => ?_, hτ.2⟩)
    rw [if_neg (by omega), (hτ.1.1 46 (by omega)).1]
  | succ m ih =>
    intro q f σ hq hf
    obtain ⟨f, rfl⟩ : ∃ g, f = g + 1 := ⟨f - 1, by omega⟩
    show wp (M_clear_b2 n (M_clear_L2 n f) f (i s) (i q) σ) _
    unfold M_clear_b2
    rw [if_neg (by rw [l3, i_le (by decide) (by omega)]; omega), l3, i_mul, i_add, if_pos (by rw [i_in (by omega)]; omega), bs_eq, i_n (by omega), l1, i_add]
    refine wp_mono (ih (q + 1) f _ (by omega) (by omega)) (fun τ hτ => ⟨(mf.rf.sA (by unfold Kf; omega)).tr hτ.1, fun y => ?_, hτ.2.2⟩)
    rw [hτ.2.1 y]
    show (if 3 * s + (q + 1) ≤ y ∧ y < 3 * s + 3 then im else upd (σ.2.1 46 0) (3 * s + q) (-1) y) = _
    unfold upd
    by_cases e : y = 3 * s + q
    · rw [if_neg (by omega), if_pos e, if_pos (by omega)]; rfl
    · by_cases e2 : 3 * s + (q + 1) ≤ y ∧ y < 3 * s + 3
      · rw [if_pos e2, if_pos (by omega)]
      · rw [if_neg e2, if_neg e, if_neg (by omega)]
theorem M_clear_s {n s f : Nat} {σ : J} (hs : s < 4) (hf : 20 ≤ f) : wp (M_clear n f (i s) σ) (fun τ => mN τ s a_fn0 ∧ mf Kf (fun _ => False) σ τ ∧ othF s σ τ) := by
  unfold M_clear M_clear_b0
  refine wp_mono (M_clear_46 (n := n) hs 3 0 f σ (by decide) (by omega)) (fun τ hτ => ?_)
  obtain ⟨h1, h2, h3⟩ := hτ
  refine ⟨⟨fun j hj => ?_, fun v hv => ?_⟩, h1, ⟨fun y hy => ?_, fun y hy => ?_⟩⟩
  · rw [h2, if_pos (by omega)]
    rfl
  · rw [(h3 _).1, (h3 _).2, if_pos (by omega), if_pos (by omega)]
    exact ⟨rfl, rfl⟩
  · rw [h2, if_neg (by omega)]
  · rw [(h3 _).1, (h3 _).2, if_neg (by omega), if_neg (by omega)]
    exact ⟨rfl, rfl⟩
theorem M_leave_L {n r : Nat} {line : List Nat} (h4 : line.length ≤ 4) (hr : r < line.length) :
    ∀ (m k f : Nat) (σ : J), k + m + 1 = line.length → r ≤ k → m < f → σ.1 24 22 0 = i line.length → (∀ j s, j < k → (line.eraseIdx r)[j]? = some s → σ.2.1 42 0 j = i s) → (∀ j s, k < j → line[j]? = some s → σ.2.1 42 0 j = i s) → wp (M_leave_L6 n f (i k) σ) (fun τ => mf (fun k => k = 42) (fun f => f = 22) σ τ ∧ mL τ (line.eraseIdx r)) := by
  intro m
  induction m with
  | zero =>
    intro k f σ hk hrk hf h1 h2 h3
    obtain ⟨f, rfl⟩ : ∃ g, f = g + 1 := ⟨f - 1, by omega⟩
    show wp (M_leave_b6 n (M_leave_L6 n f) f (i k) σ) _
    unfold M_leave_b6
    rw [h1, l1, i_add, if_pos (by rw [i_le (by omega) (by omega)]; omega), bs_eq, wp_some, i_sub (by omega)]
    have hlen : (line.eraseIdx r).length = line.length - 1 := List.length_eraseIdx_of_lt hr
    refine ⟨mf.rf.sI rfl, by rw [hlen, sI1, if_pos ⟨rfl, rfl, rfl⟩], fun j t hj => ?_⟩
    have hjl := (List.getElem?_eq_some_iff.mp hj).1
    exact h2 j t (by omega) hj
  | succ m ih =>
    intro k f σ hk hrk hf h1 h2 h3
    obtain ⟨f, rfl⟩ : ∃ g, f = g + 1 := ⟨f - 1, by omega⟩
    show wp (M_leave_b6 n (M_leave_L6 n f) f (i k) σ) _
    unfold M_leave_b6
    rw [h1, l1, i_add, if_neg (by rw [i_le (by omega) (by omega)]; omega), if_pos (by rw [i_in (by omega)]; omega), if_pos (by rw [i_in (by omega)]; omega), bs_eq, i_n (by omega), i_n (by omega)]
    have hfr : mf (fun k => k = 42) (fun f => f = 22) σ (q_sA σ 42 0 (upd (σ.2.1 42 0) k (σ.2.1 42 0 (k + 1)))) := mf.rf.sA rfl
    refine wp_mono (ih (k + 1) f _ (by omega) (by omega) (by omega) h1 (fun j t hj ht => ?_) (fun j t hj ht => ?_)) (fun υ hυ => ⟨hfr.tr hυ.1, hυ.2⟩)
    · show upd (σ.2.1 42 0) k (σ.2.1 42 0 (k + 1)) j = _
      by_cases e : j = k
      · subst e
        rw [upd_at]
        rw [List.getElem?_eraseIdx, if_neg (by omega)] at ht
        exact h3 (j + 1) t (by omega) ht
      · rw [upd_ne e]
        exact h2 j t (by omega) ht
    · show upd (σ.2.1 42 0) k (σ.2.1 42 0 (k + 1)) j = _
      rw [upd_ne (by omega)]
      exact h3 j t (by omega) ht
theorem M_leave_s {n f s : Nat} {line : List Nat} {σ : J} (h : mL σ line) (hl : line.length ≤ 4) (h4 : ∀ s ∈ line, s < 4) (hnd : line.Nodup) (hs : s ∈ line) (hf : 20 ≤ f) : wp (M_leave n f (i s) σ) (fun τ => mf (fun k => k = 42) (fun f => f = 22) σ τ ∧ mL τ (line.erase s)) := by
  unfold M_leave M_leave_b0
  rw [M_standing_s h hl h4 hnd (by omega), some_bind]
  dsimp only
  obtain ⟨k, k1, k2, k3, k4⟩ := a_place_in h4 (h4 s hs) hs
  rw [k1, ← k4]
  refine M_leave_L hl k3 (line.length - 1 - k) k f σ (by omega) (Nat.le_refl _) (by omega) h.1 (fun j t hj ht => ?_) (fun j t hj ht => h.2 j t ht)
  rw [List.getElem?_eraseIdx, if_pos hj] at ht
  exact h.2 j t ht
theorem findIdx_mid {ts : List Tp} {N : Int32} {t : Tp} (ht : t ∈ ts) (hN : t_num t = N) (hnd : (ts.map t_num).Nodup) : ∃ pre u post, ts = pre ++ u :: post ∧ t_num u = N ∧ ts.findIdx? (fun t => decide (t_num t = N)) = some pre.length := by
  obtain ⟨pre, post, rfl⟩ := List.append_of_mem ht
  refine ⟨pre, t, post, rfl, hN, ?_⟩
  obtain ⟨h1, -⟩ := nodup_mid hnd
  rw [List.findIdx?_append, List.findIdx?_eq_none_iff.mpr (fun u hu => by rw [decide_eq_false_iff_not, ← hN]; exact h1 u hu), List.findIdx?_cons, if_pos (by simpa using hN)]
  simp
/-- taken, in the reference's rows -/
theorem mT_take {σ : J} {j : Nat} {t : Tp} {a b : Int32} (h : mT σ j t) : mT (q_sA (q_sA σ 30 0 (upd (σ.2.1 30 0) j a)) 31 0 (upd (σ.2.1 31 0) j b)) j (t_setT t a b) := by
  obtain ⟨g1, g2, g3, g4, g5, g6, g7⟩ := h
  exact ⟨g1, g2, g3, g4, upd_at, fun _ => upd_at, g7⟩
theorem mT_takeo {σ : J} {j q : Nat} {t : Tp} {a b : Int32} (h : mT σ q t) (hq : q ≠ j) : mT (q_sA (q_sA σ 30 0 (upd (σ.2.1 30 0) j a)) 31 0 (upd (σ.2.1 31 0) j b)) q t := by
  obtain ⟨g1, g2, g3, g4, g5, g6, g7⟩ := h
  refine ⟨g1, g2, g3, g4, ?_, fun e => ?_, g7⟩
  · show upd (σ.2.1 30 0) j a q = _
    rw [upd_ne hq]; exact g5
  · show upd (σ.2.1 31 0) j b q = _
    rw [upd_ne hq]; exact g6 e
theorem a_take_mem {s d : Nat} {ts : List Tp} {m k : Int32} (hk : ∃ t ∈ ts, t_num t = k) (hne : k ≠ m) : ∃ t ∈ a_take s d ts m, t_num t = k := by
  obtain ⟨t, ht, e⟩ := hk
  unfold a_take
  split
  · exact ⟨t, List.mem_filter.mpr ⟨ht, decide_eq_true (by rw [e]; exact hne)⟩, e⟩
  · refine ⟨_, List.mem_map.mpr ⟨t, ht, rfl⟩, ?_⟩
    rw [if_neg (by rw [e]; exact hne)]
    exact e
theorem a_take_fs {s d : Nat} {ts : List Tp} {m : Int32} (h : ∀ t ∈ ts, (t_fs t).length ≤ 4) : ∀ t ∈ a_take s d ts m, (t_fs t).length ≤ 4 := by
  intro t ht
  unfold a_take at ht
  split at ht
  · exact h t (List.mem_filter.mp ht).1
  · obtain ⟨u, hu, rfl⟩ := List.mem_map.mp ht
    split
    · exact h u hu
    · exact h u hu
theorem M_keep_take {n s d joined : Nat} {nums : List Int32} {tk : Bool} (hs : s < 4) (hj : joined ≤ 3) (hnl : nums.length = joined) (hd : d ≤ 4) :
    ∀ (rest : List Int32) (p f : Nat) (ts : List Tp) (σ : J), nums.drop p = rest → p ≤ joined → rest.length + 70 ≤ f → mB σ ts → (ts.map t_num).Nodup → (∀ t ∈ ts, (t_fs t).length ≤ 4) → rest.Nodup → (∀ m ∈ rest, ∃ t ∈ ts, t_num t = m) → (∀ j, j < 3 → σ.2.1 46 0 (3 * s + j) = nums.getD j im) → σ.2.1 34 0 s = i d → wp (M_keep_L123 n f (i s) (i joined) (b01 tk) (i p) σ) (fun τ => mf Kr F1 σ τ ∧ mB τ (if tk = true then rest.foldl (a_take s d) ts else ts)) := by
  intro rest
  induction rest with
  | nil =>
    intro p f ts σ hdr hp hf hB hnd hfs hrn hrm h46 h34
    obtain ⟨f, rfl⟩ : ∃ g, f = g + 1 := ⟨f - 1, by omega⟩
    have := List.drop_eq_nil_iff.mp hdr
    show wp (M_keep_b123 n (M_keep_L123 n f) f (i s) (i joined) (b01 tk) (i p) σ) _
    unfold M_keep_b123 M_keep_b195
    rw [if_pos (by rw [i_le (by omega) (by omega)]; omega), wp_some]
    refine ⟨mf.rf, ?_⟩
    cases tk <;> exact hB
  | cons m rest ih =>
    intro p f ts σ hdr hp hf hB hnd hfs hrn hrm h46 h34
    obtain ⟨f, rfl⟩ : ∃ g, f = g + 1 := ⟨f - 1, by omega⟩
    have hfl : rest.length + 70 ≤ f := by simp at hf; omega
    obtain ⟨d1, d2⟩ := drop_cons hdr
    have hpl := (List.getElem?_eq_some_iff.mp d1).1
    have h20 := hB.2.1
    show wp (M_keep_b123 n (M_keep_L123 n f) f (i s) (i joined) (b01 tk) (i p) σ) _
    unfold M_keep_b123 M_keep_b189 M_keep_b195
    rw [if_neg (by rw [i_le (by omega) (by omega)]; omega)]
    cases tk with
    | false =>
      rw [if_pos (show b01 false = 0 from rfl), wp_some]
      exact ⟨mf.rf, hB⟩
    | true =>
      have his : q_in (i s) 4 = true := by rw [i_in (by omega)]; exact hs
      have hm : σ.2.1 46 0 (3 * s + p) = m := by rw [h46 p (by omega), List.getD_eq_getElem?_getD, d1]; rfl
      obtain ⟨t, ht, hN⟩ := hrm m List.mem_cons_self
      obtain ⟨pre, u, post, e1, e2, e3⟩ := findIdx_mid ht hN hnd
      have hpre : pre.length < ts.length := by rw [e1, List.length_append, List.length_cons]; omega
      rw [if_neg (show ¬ b01 true = 0 by decide), l3, i_mul, i_add, if_pos (by rw [i_in (by omega)]; omega), i_n (by omega), hm, M_place_s hB hnd (by omega), some_bind, e3]
      dsimp only
      rw [show a_idx (some pre.length) = i pre.length from rfl, if_pos his, i_n (by omega), h34]
      have hrn2 := List.nodup_cons.mp hrn
      have hrm2 : ∀ k ∈ rest, ∃ t ∈ a_take s d ts m, t_num t = k := fun k hk => a_take_mem (hrm k (List.mem_cons_of_mem _ hk)) (fun e => hrn2.1 (e ▸ hk))
      have hnd' := hnd
      rw [e1] at hnd'
      have hnu : (a_take s d ts m).map t_num |>.Nodup := a_take_num hnd
      rw [if_pos rfl, List.foldl_cons]
      by_cases hd0 : d = 0
      · subst hd0
        rw [if_pos (show i 0 = 0 from rfl)]
        have ha : a_take s 0 ts m = pre ++ post := by
          unfold a_take
          rw [if_pos rfl, e1]
          exact filter_mid hnd' e2
        refine wp_bind (M_remove_s (n := n) (f := f) (r := pre.length) hB hfs hpre (by omega)) (fun τ hτ => ?_)
        have hBt : mB τ (a_take s 0 ts m) := by
          have := hτ.2
          rw [e1, erase_mid] at this
          rw [ha]; exact this
        rw [l1, i_add]
        refine wp_mono (ih (p + 1) f (a_take s 0 ts m) τ d2 (by omega) hfl hBt hnu (a_take_fs hfs) hrn2.2 hrm2 (fun j hj => by rw [(hτ.1.1 46 (by unfold Kr; omega)).1]; exact h46 j hj) (by rw [(hτ.1.1 34 (by unfold Kr; omega)).1]; exact h34)) (fun υ hυ => ⟨hτ.1.tr hυ.1, ?_⟩)
        have := hυ.2
        rw [if_pos rfl] at this
        exact this
      · rw [if_neg (by rw [l0, i_eq (by omega) (by decide)]; exact hd0)]
        have hi20 : q_in (i pre.length) 20 = true := by rw [i_in (by omega)]; omega
        simp only [hi20, his, if_true, bs_eq]
        rw [i_n (by omega)]
        have ha : a_take s d ts m = pre ++ t_setT u (i s) (i d) :: post := by
          unfold a_take
          rw [if_neg hd0, e1]
          exact map_mid (g := fun t => t_setT t (i s) (i d)) hnd' e2
        have hTu := hB.2.2 pre.length u (by rw [e1]; exact get_mid)
        have hBt : mB (q_sA (q_sA σ 30 0 (upd (σ.2.1 30 0) pre.length (i s))) 31 0 (upd (σ.2.1 31 0) pre.length (i d))) (a_take s d ts m) := by
          have := mB_set (j := pre.length) (τ := q_sA (q_sA σ 30 0 (upd (σ.2.1 30 0) pre.length (i s))) 31 0 (upd (σ.2.1 31 0) pre.length (i d))) hB hpre rfl (mT_take hTu) (fun q v hq _ hv => mT_takeo hv hq)
          rw [e1, set_mid] at this
          rw [ha]; exact this
        have hfr : mf Kr F1 σ (q_sA (q_sA σ 30 0 (upd (σ.2.1 30 0) pre.length (i s))) 31 0 (upd (σ.2.1 31 0) pre.length (i d))) := (mf.rf.sA (by unfold Kr; omega)).sA (by unfold Kr; omega)
        rw [l1, i_add]
        have h34' : (q_sA σ 30 0 (upd (σ.2.1 30 0) pre.length (i s))).2.1 34 0 s = i d := h34
        rw [h34']
        refine wp_mono (ih (p + 1) f (a_take s d ts m) _ d2 (by omega) hfl hBt hnu (a_take_fs hfs) hrn2.2 hrm2 h46 h34) (fun υ hυ => ⟨hfr.tr hυ.1, ?_⟩)
        have := hυ.2
        rw [if_pos rfl] at this
        exact this
