/-! The interpreter's state in the machine's heap: cells by names, frames, what an instruction must be. Ours. -/
theorem gt_good : ∀ w ∈ gt, goodWord w = true := fun _ h => (List.mem_filter.mp h).2
theorem gi_1 {cw : Cond} (hc : cw ∈ gt) : GoodIn gt (cw :: gt) := fun w h => by
  have hw : w ∈ gt := by
    rcases List.mem_cons.mp h with rfl | h
    · exact hc
    · exact h
  exact ⟨hw, good_of_word (gt_good w hw)⟩
theorem gi_V {own C : String} {idx : Nat} {y : MethodName} {cw : Cond} (h1 : Cond.methodLink own idx y ∈ gt) (h2 : Cond.instanceMethod y ∈ gt) (h3 : Cond.selects C y y ∈ gt) (h4 : Cond.initialized C ∈ gt) (hc : cw ∈ gt) : GoodIn gt (wsV own idx C y (cw :: gt)) := fun w h => by
  have hw : w ∈ gt := by
    unfold wsV at h
    rcases List.mem_append.mp h with h | h
    · simp only [List.mem_cons, List.not_mem_nil, or_false] at h
      rcases h with rfl | rfl | rfl | rfl
      · exact h1
      · exact h2
      · exact h3
      · exact h4
    · exact (gi_1 hc w h).1
  exact ⟨hw, good_of_word (gt_good w hw)⟩
theorem gi_S {own : String} {idx : Nat} {y : MethodName} {cw : Cond} (h1 : Cond.methodLink own idx y ∈ gt) (h2 : Cond.static y ∈ gt) (h4 : Cond.initialized own ∈ gt) (hc : cw ∈ gt) : GoodIn gt (wsS own idx y (cw :: gt)) := fun w h => by
  have hw : w ∈ gt := by
    unfold wsS at h
    rcases List.mem_append.mp h with h | h
    · simp only [List.mem_cons, List.not_mem_nil, or_false] at h
      rcases h with rfl | rfl | rfl
      · exact h1
      · exact h2
      · exact h4
    · exact (gi_1 hc w h).1
  exact ⟨hw, good_of_word (gt_good w hw)⟩
-- names and their cells
def hup (cn : Nat → Nat → va_E) (k i : Nat) (e : va_E) : Nat → Nat → va_E := fun k' i' => if k' = k ∧ i' = i then e else cn k' i'
def wl (ids : List (Nat × Nat)) (ad : Nat → Nat → Nat) (cn : Nat → Nat → va_E) : va_W := ids.map (fun x => (ad x.1 x.2, cn x.1 x.2))
theorem wl_at {ids : List (Nat × Nat)} {ad : Nat → Nat → Nat} {cn : Nat → Nat → va_E} {k i : Nat} (h : (k, i) ∈ ids) : ∃ q : Nat, ids[q]? = some (k, i) ∧ (wl ids ad cn)[q]? = some (ad k i, cn k i) := by
  obtain ⟨q, hq⟩ := List.getElem?_of_mem h
  exact ⟨q, hq, by simp only [wl, List.getElem?_map, hq]; rfl⟩
theorem wl_set {A : Nat → Prop} {ids : List (Nat × Nat)} {ad : Nat → Nat → Nat} {cn : Nat → Nat → va_E} {k i q : Nat} {e : va_E} (hI : va_D A (wl ids ad cn)) (hq : ids[q]? = some (k, i)) : (wl ids ad cn).set q (ad k i, e) = wl ids ad (hup cn k i e) := by
  have hql : (wl ids ad cn)[q]? = some (ad k i, cn k i) := by simp only [wl, List.getElem?_map, hq]; rfl
  have hlen : q < (wl ids ad cn).length := (List.getElem?_eq_some_iff.mp hql).1
  apply List.ext_getElem?
  intro j
  by_cases hj : j = q
  · subst hj
    rw [List.getElem?_set_self hlen]
    simp [wl, List.getElem?_map, hq, hup]
  · rw [List.getElem?_set_ne (Ne.symm hj)]
    simp only [wl, List.getElem?_map]
    cases hx : ids[j]? with
    | none => rfl
    | some x =>
      have hne : ¬ (x.1 = k ∧ x.2 = i) := by
        rintro ⟨h1, h2⟩
        apply hj
        refine hI.1 j q (ad x.1 x.2, cn x.1 x.2) (ad k i, cn k i) (by simp only [wl, List.getElem?_map, hx]; rfl) hql ?_
        show ad x.1 x.2 = ad k i
        rw [h1, h2]
      simp [hup, hne]
def idj (n : Nat) : List (Nat × Nat) := (List.range q_ctt.length).flatMap fun k => (List.range (q_ct n k)).map fun i => (k, i)
theorem idj_in {n k i : Nat} (hi : i < q_ct n k) : (k, i) ∈ idj n := by
  refine List.mem_flatMap.mpr ⟨k, List.mem_range.mpr ?_, List.mem_map.mpr ⟨i, List.mem_range.mpr hi, rfl⟩⟩
  apply Nat.lt_of_not_le
  intro h
  have e : q_ct n k = 0 := by
    unfold q_ct
    rw [List.getD_eq_getElem?_getD, List.getElem?_eq_none h]
    rfl
  omega
theorem idj_lt {n k i : Nat} (h : (k, i) ∈ idj n) : i < q_ct n k := by
  obtain ⟨k', -, h⟩ := List.mem_flatMap.mp h
  obtain ⟨i', hi, he⟩ := List.mem_map.mp h
  cases he
  exact List.mem_range.mp hi
theorem q_ok_in {n k i : Nat} (h : q_ok n (.inr (.inr (some (k, i)))) = true) (hk : k ≠ 63) : (k, i) ∈ idj n := by
  replace h : (Nat.beq k 63 || Nat.blt i (q_ct n k)) = true := h
  rw [Bool.or_eq_true] at h
  rcases h with h | h
  · exact absurd (Nat.eq_of_beq_eq_true h) hk
  · exact idj_in (Nat.blt_eq.mp h)
theorem q_ok_b {n k i : Nat} (h : Nat.blt i (q_ct n k) = true) : q_ok n (.inr (.inr (some (k, i)))) = true := by
  show (Nat.beq k 63 || Nat.blt i (q_ct n k)) = true
  rw [h, Bool.or_true]
-- what the cells hold
def q_fs (ad : Nat → Nat → Nat) (σ : J) (k i : Nat) : Nat → List (Nat × Nat × Nat) → List Value
  | _, [] => []
  | f, d :: r => q_tv ad (q_fv σ k i f d) :: q_fs ad σ k i (f + 1) r
theorem q_fs_len (ad : Nat → Nat → Nat) (σ : J) (k i : Nat) (l : List (Nat × Nat × Nat)) : ∀ f, (q_fs ad σ k i f l).length = l.length := by
  induction l with
  | nil => intro f; rfl
  | cons d r ih => intro f; simp [q_fs, ih]
theorem q_fs_at (ad : Nat → Nat → Nat) (σ : J) (k i : Nat) (l : List (Nat × Nat × Nat)) : ∀ (f j : Nat), (q_fs ad σ k i f l)[j]? = (l[j]?).map (fun d => q_tv ad (q_fv σ k i (f + j) d)) := by
  induction l with
  | nil => intro f j; simp [q_fs]
  | cons d r ih =>
    intro f j
    cases j with
    | zero => simp [q_fs]
    | succ j =>
      simp only [q_fs, List.getElem?_cons_succ, ih]
      rw [show f + 1 + j = f + (j + 1) by omega]
def q_ar (ad : Nat → Nat → Nat) (σ : J) (t ek k i : Nat) : (Nat → Int32) ⊕ (Nat → Int64) ⊕ (Nat → UInt32) ⊕ (Nat → UInt64) ⊕ (Nat → Option Nat) := match t with
  | 0 => .inl (σ.2.1 k i)
  | 1 => .inr (.inl (σ.2.2.1 k i))
  | 2 => .inl (σ.2.1 k i)
  | _ => .inr (.inr (.inr (.inr (fun j => some (ad ek (σ.2.2.2 k i j))))))
def cj (cy : Nat → ClassId) (ad : Nat → Nat → Nat) (n : Nat) (σ : J) (k i : Nat) : va_E := match q_ko k with
  | some w => .inr (w.1, q_fs ad σ k i 0 w.2)
  | none => match q_ka k with
    | some w => .inl (cy w.1, q_nn n w.2.2, q_ar ad σ w.1 w.2.1 k i)
    | none => .inl (cy 0, 0, .inl (fun _ => 0))
theorem cj_o {cy : Nat → ClassId} {ad : Nat → Nat → Nat} {n : Nat} {σ : J} {k i : Nat} {w : Nat × List (Nat × Nat × Nat)} (h : q_ko k = some w) : cj cy ad n σ k i = .inr (w.1, q_fs ad σ k i 0 w.2) := by
  unfold cj
  rw [h]
theorem q_apart : ∀ k, k < q_kot.length → (q_kot.getD k none).isSome = true → q_kat.getD k none = none := by decide
theorem q_ko_lt {k : Nat} {w : Nat × List (Nat × Nat × Nat)} (h : q_ko k = some w) : k < q_kot.length := by
  apply Nat.lt_of_not_le
  intro hk
  unfold q_ko at h
  rw [List.getD_eq_getElem?_getD, List.getElem?_eq_none hk] at h
  cases h
theorem q_ko_ne {k : Nat} {w : Nat × List (Nat × Nat × Nat)} (h : q_ko k = some w) : k ≠ 63 := fun e => by
  have h1 := q_ko_lt h
  rw [e] at h1
  exact absurd h1 (by decide)
theorem q_ka_ne {k : Nat} {w : Nat × Nat × Nat × Nat} (h : q_ka k = some w) : k ≠ 63 := fun e => by
  rw [e, show q_ka 63 = none from rfl] at h
  cases h
theorem q_ka_ko {k : Nat} {w : Nat × Nat × Nat × Nat} (h : q_ka k = some w) : q_ko k = none := by
  cases hk : q_ko k with
  | none => rfl
  | some v =>
    have h1 := q_apart k (q_ko_lt hk) (by show (q_ko k).isSome = true; rw [hk]; rfl)
    rw [show q_ka k = q_kat.getD k none from rfl, h1] at h
    cases h
theorem cj_a {cy : Nat → ClassId} {ad : Nat → Nat → Nat} {n : Nat} {σ : J} {k i : Nat} {w : Nat × Nat × Nat × Nat} (h : q_ka k = some w) : cj cy ad n σ k i = .inl (cy w.1, q_nn n w.2.2, q_ar ad σ w.1 w.2.1 k i) := by
  unfold cj
  rw [q_ka_ko h, h]
abbrev WJ (D : va_G) (cy : Nat → ClassId) (ad : Nat → Nat → Nat) (n : Nat) (σ : J) (H : Heap) : Prop := va_P D vcl (wl (idj n) ad (cj cy ad n σ)) H
theorem q_fs_eq {ad : Nat → Nat → Nat} {σ τ : J} {k i : Nat} (h0 : ∀ f, σ.1 k f i = τ.1 k f i) (l : List (Nat × Nat × Nat)) : ∀ f, q_fs ad σ k i f l = q_fs ad τ k i f l := by
  induction l with
  | nil => intro f; rfl
  | cons d r ih =>
    intro f
    show q_tv ad (q_fv σ k i f d) :: q_fs ad σ k i (f + 1) r = q_tv ad (q_fv τ k i f d) :: q_fs ad τ k i (f + 1) r
    rw [ih, q_fv, q_fv, h0]
theorem cj_eq {cy : Nat → ClassId} {ad : Nat → Nat → Nat} {n : Nat} {σ τ : J} {k i : Nat} (h0 : ∀ f, σ.1 k f i = τ.1 k f i) (h1 : σ.2.1 k i = τ.2.1 k i) (h2 : σ.2.2.1 k i = τ.2.2.1 k i) (h3 : σ.2.2.2 k i = τ.2.2.2 k i) : cj cy ad n σ k i = cj cy ad n τ k i := by
  unfold cj
  cases q_ko k with
  | some w => show (Sum.inr (w.1, _) : va_E) = Sum.inr (w.1, _); rw [q_fs_eq h0]
  | none =>
    cases q_ka k with
    | none => rfl
    | some w =>
      show (Sum.inl (cy w.1, q_nn n w.2.2, _) : va_E) = Sum.inl (cy w.1, q_nn n w.2.2, _)
      unfold q_ar
      rw [h1, h2, h3]
/-- the state behind a store into a field -/
theorem cj_sI {cy : Nat → ClassId} {ad : Nat → Nat → Nat} {n : Nat} {σ : J} {k i f : Nat} {v : Int32} {w : Nat × List (Nat × Nat × Nat)} {d : Nat × Nat × Nat} (h : q_ko k = some w) (hd : w.2[f]? = some d) (h2 : d.1 < 2) : hup (cj cy ad n σ) k i (.inr (w.1, (q_fs ad σ k i 0 w.2).set f (.int v))) = cj cy ad n (q_sI σ k f i v) := by
  funext k' i'
  by_cases hk : k' = k ∧ i' = i
  · obtain ⟨rfl, rfl⟩ := hk
    rw [show hup (cj cy ad n σ) k' i' (.inr (w.1, (q_fs ad σ k' i' 0 w.2).set f (.int v))) k' i' = .inr (w.1, (q_fs ad σ k' i' 0 w.2).set f (.int v)) by simp [hup], cj_o h]
    congr 2
    apply List.ext_getElem?
    intro j
    have hl : f < (q_fs ad σ k' i' 0 w.2).length := by
      rw [q_fs_len]
      exact (List.getElem?_eq_some_iff.mp hd).1
    by_cases hj : j = f
    · subst hj
      rw [List.getElem?_set_self hl, q_fs_at, hd]
      simp [q_fv, q_sI, q_tv, Nat.blt_eq.mpr h2]
    · rw [List.getElem?_set_ne (Ne.symm hj), q_fs_at, q_fs_at]
      cases hx : w.2[j]? with
      | none => rfl
      | some d' => simp [q_fv, q_sI, hj]
  · rw [show hup (cj cy ad n σ) k i (.inr (w.1, (q_fs ad σ k i 0 w.2).set f (.int v))) k' i' = cj cy ad n σ k' i' by simp [hup, hk]]
    exact cj_eq (fun j => (if_neg fun q => hk ⟨q.1, q.2.2⟩).symm) rfl rfl rfl
theorem cj_sA {cy : Nat → ClassId} {ad : Nat → Nat → Nat} {n : Nat} {σ : J} {k i : Nat} {g : Nat → Int32} {w : Nat × Nat × Nat × Nat} (h : q_ka k = some w) (ht : w.1 = 0 ∨ w.1 = 2) : hup (cj cy ad n σ) k i (.inl (cy w.1, q_nn n w.2.2, .inl g)) = cj cy ad n (q_sA σ k i g) := by
  funext k' i'
  by_cases hk : k' = k ∧ i' = i
  · obtain ⟨rfl, rfl⟩ := hk
    rw [show hup (cj cy ad n σ) k' i' (.inl (cy w.1, q_nn n w.2.2, .inl g)) k' i' = .inl (cy w.1, q_nn n w.2.2, .inl g) by simp [hup], cj_a h]
    rcases ht with ht | ht <;> simp [ht, q_ar, q_sA]
  · rw [show hup (cj cy ad n σ) k i (.inl (cy w.1, q_nn n w.2.2, .inl g)) k' i' = cj cy ad n σ k' i' by simp [hup, hk]]
    exact cj_eq (fun _ => rfl) (if_neg hk).symm rfl rfl
theorem cj_sL {cy : Nat → ClassId} {ad : Nat → Nat → Nat} {n : Nat} {σ : J} {k i : Nat} {g : Nat → Int64} {w : Nat × Nat × Nat × Nat} (h : q_ka k = some w) (ht : w.1 = 1) : hup (cj cy ad n σ) k i (.inl (cy w.1, q_nn n w.2.2, .inr (.inl g))) = cj cy ad n (q_sL σ k i g) := by
  funext k' i'
  by_cases hk : k' = k ∧ i' = i
  · obtain ⟨rfl, rfl⟩ := hk
    rw [show hup (cj cy ad n σ) k' i' (.inl (cy w.1, q_nn n w.2.2, .inr (.inl g))) k' i' = .inl (cy w.1, q_nn n w.2.2, .inr (.inl g)) by simp [hup], cj_a h]
    simp [ht, q_ar, q_sL]
  · rw [show hup (cj cy ad n σ) k i (.inl (cy w.1, q_nn n w.2.2, .inr (.inl g))) k' i' = cj cy ad n σ k' i' by simp [hup, hk]]
    exact cj_eq (fun _ => rfl) rfl (if_neg hk).symm rfl
theorem q_ar_q {ad : Nat → Nat → Nat} {σ : J} {t ek k i : Nat} (h : 2 < t) : q_ar ad σ t ek k i = .inr (.inr (.inr (.inr (fun j => some (ad ek (σ.2.2.2 k i j)))))) := by
  match t, h with
  | _ + 3, _ => rfl
theorem cj_sP {cy : Nat → ClassId} {ad : Nat → Nat → Nat} {n : Nat} {σ : J} {k i : Nat} {g : Nat → Nat} {w : Nat × Nat × Nat × Nat} (h : q_ka k = some w) (ht : 2 < w.1) : hup (cj cy ad n σ) k i (.inl (cy w.1, q_nn n w.2.2, .inr (.inr (.inr (.inr (fun j => some (ad w.2.1 (g j)))))))) = cj cy ad n (q_sP σ k i g) := by
  funext k' i'
  by_cases hk : k' = k ∧ i' = i
  · obtain ⟨rfl, rfl⟩ := hk
    rw [show hup (cj cy ad n σ) k' i' (.inl (cy w.1, q_nn n w.2.2, .inr (.inr (.inr (.inr (fun j => some (ad w.2.1 (g j)))))))) k' i' = .inl (cy w.1, q_nn n w.2.2, .inr (.inr (.inr (.inr (fun j => some (ad w.2.1 (g j))))))) by simp [hup], cj_a h, q_ar_q ht]
    simp [q_sP]
  · rw [show hup (cj cy ad n σ) k i (.inl (cy w.1, q_nn n w.2.2, .inr (.inr (.inr (.inr (fun j => some (ad w.2.1 (g j)))))))) k' i' = cj cy ad n σ k' i' by simp [hup, hk]]
    exact cj_eq (fun _ => rfl) rfl rfl (if_neg hk).symm
