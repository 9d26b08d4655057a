/-! The reference: what its rows hold; its leaves. Ours. -/
/-- all but these rows, and these fields, stay -/
def mf (K F : Nat → Prop) (σ τ : J) : Prop := (∀ k, ¬ K k → τ.2.1 k 0 = σ.2.1 k 0 ∧ τ.2.2.1 k 0 = σ.2.2.1 k 0) ∧ ∀ f, ¬ F f → τ.1 24 f 0 = σ.1 24 f 0
theorem mf.rf {K F : Nat → Prop} {σ : J} : mf K F σ σ := ⟨fun _ _ => ⟨rfl, rfl⟩, fun _ _ => rfl⟩
theorem mf.tr {K F : Nat → Prop} {σ τ υ : J} (h1 : mf K F σ τ) (h2 : mf K F τ υ) : mf K F σ υ := ⟨fun k hk => ⟨(h2.1 k hk).1.trans (h1.1 k hk).1, (h2.1 k hk).2.trans (h1.1 k hk).2⟩, fun f hf => (h2.2 f hf).trans (h1.2 f hf)⟩
theorem mf.up {K F L G : Nat → Prop} {σ τ : J} (h : mf K F σ τ) (h1 : ∀ k, K k → L k) (h2 : ∀ f, F f → G f) : mf L G σ τ := ⟨fun k hk => h.1 k (fun q => hk (h1 k q)), fun f hf => h.2 f (fun q => hf (h2 f q))⟩
theorem mf.sI {K F : Nat → Prop} {σ τ : J} {f : Nat} {v : Int32} (h : mf K F σ τ) (hf : F f) : mf K F σ (q_sI τ 24 f 0 v) := ⟨h.1, fun g hg => by
  rw [sI1, if_neg (fun q : 24 = 24 ∧ g = f ∧ 0 = 0 => hg (by rw [q.2.1]; exact hf))]
  exact h.2 g hg⟩
theorem mf.sA {K F : Nat → Prop} {σ τ : J} {k : Nat} {g : Nat → Int32} (h : mf K F σ τ) (hk : K k) : mf K F σ (q_sA τ k 0 g) := ⟨fun x hx => ⟨by
  rw [sA2, if_neg (fun q : x = k ∧ 0 = 0 => hx (by rw [q.1]; exact hk))]
  exact (h.1 x hx).1, (h.1 x hx).2⟩, h.2⟩
theorem mf.sL {K F : Nat → Prop} {σ τ : J} {k : Nat} {g : Nat → Int64} (h : mf K F σ τ) (hk : K k) : mf K F σ (q_sL τ k 0 g) := ⟨fun x hx => ⟨(h.1 x hx).1, by
  rw [sL3, if_neg (fun q : x = k ∧ 0 = 0 => hx (by rw [q.1]; exact hk))]
  exact (h.1 x hx).2⟩, h.2⟩
/-- a row of the reference's board -/
def mT (σ : J) (j : Nat) (t : Tp) : Prop := σ.2.1 25 0 j = t_num t ∧ σ.2.1 27 0 j = t_end t ∧ σ.2.1 28 0 j = t_pS t ∧ (t_pS t ≠ im → σ.2.1 29 0 j = t_pD t) ∧ σ.2.1 30 0 j = t_tS t ∧ (t_tS t ≠ im → σ.2.1 31 0 j = t_tD t) ∧ FR (σ.2.1 26 0 j) (fun q => σ.2.1 32 0 (4 * j + q)) (fun q => σ.2.2.1 33 0 (4 * j + q)) (t_fs t)
def mB (σ : J) (ts : List Tp) : Prop := σ.1 24 1 0 = i ts.length ∧ ts.length ≤ 20 ∧ ∀ j t, ts[j]? = some t → mT σ j t
def mG (σ : J) (r : Nat) (gs : List Fm) : Prop := GR (σ.2.1 38 0 r) (fun q => σ.2.1 39 0 (4 * r + q)) (fun q => σ.2.2.1 40 0 (4 * r + q)) (fun q => σ.2.2.1 41 0 (4 * r + q)) gs
def mL (σ : J) (line : List Nat) : Prop := σ.1 24 22 0 = i line.length ∧ ∀ j s, line[j]? = some s → σ.2.1 42 0 j = i s
def mN (σ : J) (s : Nat) (r : Fq) : Prop := (∀ j, j < 3 → σ.2.1 46 0 (3 * s + j) = r.1.getD j im) ∧ ∀ v, v < 4 → σ.2.1 47 0 (4 * s + v) = (match r.2 v with | some x => x.1 | none => im) ∧ σ.2.2.1 48 0 (4 * s + v) = (match r.2 v with | some x => x.2 | none => 0)
def mO (σ : J) (j : Nat) (o : Od) : Prop := mG σ (12 + j) o.1 ∧ σ.2.1 49 0 j = i o.2.1.length ∧ AR (fun q => σ.2.1 50 0 (5 * j + q)) o.2.1 ∧ σ.2.1 51 0 j = b01 o.2.2
def mOs (σ : J) (os : List Od) : Prop := σ.1 24 30 0 = i os.length ∧ (∀ j o, os[j]? = some o → mO σ j o) ∧ ∀ j, os.length ≤ j → j < 6 → σ.2.1 49 0 j = i 0 ∧ σ.2.1 51 0 j = i 0
def mA (n : Nat) (σ : J) : Sq → Prop
  | (now, lat, ts, line, dl, dr, pt, la, jo, tk, fn, os) => σ.1 24 13 0 = i n ∧ σ.1 24 3 0 = i now ∧ σ.1 24 2 0 = i lat ∧ mB σ ts ∧ mL σ line ∧ (∀ s, s < n → σ.2.1 34 0 s = i (dl s)) ∧ (∀ s, s < n → FR (σ.2.1 35 0 s) (fun q => σ.2.1 36 0 (4 * s + q)) (fun q => σ.2.2.1 37 0 (4 * s + q)) (dr s)) ∧ (∀ s p, s < n → p < 3 → mG σ (3 * s + p) (pt s p)) ∧ (∀ s, s < n → σ.2.1 45 0 s = la s) ∧ (∀ s ∈ line, la s = i 0 ∧ σ.2.1 43 0 s = i (jo s) ∧ σ.2.1 44 0 s &&& 1 = b01 (tk s)) ∧ (∀ s, s < n → mN σ s (fn s)) ∧ mOs σ os ∧ ∀ v, v < 4 → σ.2.1 52 0 v = im
theorem mT.fr {K F : Nat → Prop} {σ τ : J} {j : Nat} {t : Tp} (h : mT σ j t) (hf : mf K F σ τ) (hk : ∀ k, 25 ≤ k → k ≤ 33 → ¬ K k) : mT τ j t := by
  unfold mT
  rw [(hf.1 25 (hk 25 (by decide) (by decide))).1, (hf.1 26 (hk 26 (by decide) (by decide))).1, (hf.1 27 (hk 27 (by decide) (by decide))).1, (hf.1 28 (hk 28 (by decide) (by decide))).1, (hf.1 29 (hk 29 (by decide) (by decide))).1, (hf.1 30 (hk 30 (by decide) (by decide))).1, (hf.1 31 (hk 31 (by decide) (by decide))).1, (hf.1 32 (hk 32 (by decide) (by decide))).1, (hf.1 33 (hk 33 (by decide) (by decide))).2]
  exact h
theorem mB.fr {K F : Nat → Prop} {σ τ : J} {ts : List Tp} (h : mB σ ts) (hf : mf K F σ τ) (hk : ∀ k, 25 ≤ k → k ≤ 33 → ¬ K k) (h1 : ¬ F 1) : mB τ ts := ⟨by rw [hf.2 1 h1]; exact h.1, h.2.1, fun j t ht => (h.2.2 j t ht).fr hf hk⟩
theorem mG.fr {K F : Nat → Prop} {σ τ : J} {r : Nat} {gs : List Fm} (h : mG σ r gs) (hf : mf K F σ τ) (hk : ∀ k, 38 ≤ k → k ≤ 41 → ¬ K k) : mG τ r gs := by
  unfold mG
  rw [(hf.1 38 (hk 38 (by decide) (by decide))).1, (hf.1 39 (hk 39 (by decide) (by decide))).1, (hf.1 40 (hk 40 (by decide) (by decide))).2, (hf.1 41 (hk 41 (by decide) (by decide))).2]
  exact h
theorem mL.fr {K F : Nat → Prop} {σ τ : J} {line : List Nat} (h : mL σ line) (hf : mf K F σ τ) (hk : ¬ K 42) (h1 : ¬ F 22) : mL τ line := by
  unfold mL
  rw [(hf.1 42 hk).1, hf.2 22 h1]
  exact h
theorem mN.fr {K F : Nat → Prop} {σ τ : J} {s : Nat} {r : Fq} (h : mN σ s r) (hf : mf K F σ τ) (h1 : ¬ K 46) (h2 : ¬ K 47) (h3 : ¬ K 48) : mN τ s r := by
  unfold mN
  rw [(hf.1 46 h1).1, (hf.1 47 h2).1, (hf.1 48 h3).2]
  exact h
theorem mO.fr {K F : Nat → Prop} {σ τ : J} {j : Nat} {o : Od} (h : mO σ j o) (hf : mf K F σ τ) (hk : ∀ k, 38 ≤ k → k ≤ 41 → ¬ K k) (h1 : ¬ K 49) (h2 : ¬ K 50) (h3 : ¬ K 51) : mO τ j o := by
  unfold mO
  rw [(hf.1 49 h1).1, (hf.1 50 h2).1, (hf.1 51 h3).1]
  exact ⟨h.1.fr hf hk, h.2⟩
theorem mOs.fr {K F : Nat → Prop} {σ τ : J} {os : List Od} (h : mOs σ os) (hf : mf K F σ τ) (hk : ∀ k, 38 ≤ k → k ≤ 41 → ¬ K k) (h1 : ¬ K 49) (h2 : ¬ K 50) (h3 : ¬ K 51) (h4 : ¬ F 30) : mOs τ os := by
  refine ⟨by rw [hf.2 30 h4]; exact h.1, fun j o ho => (h.2.1 j o ho).fr hf hk h1 h2 h3, ?_⟩
  rw [(hf.1 49 h1).1, (hf.1 51 h3).1]
  exact h.2.2
theorem M_within_s {n : Nat} {v m : Int64} {σ : J} : M_within n v m σ = some (b01 (!decide (v < 0) && !decide (m < v)), σ) := by
  unfold M_within M_within_b0 M_within_b16 M_within_b17
  simp only [and1_0, and1_1, if_true, lq_lt, lq_gt]
  by_cases h1 : v < 0 <;> by_cases h2 : m < v <;> simp [h1, h2, b01]
theorem i64_i {k : Nat} (h : k < 2147483648) : (i k).toInt64.toInt = k := by
  rw [Int32.toInt_toInt64, i_t h]
theorem within_i {x : Int32} {m : Nat} (hm : m < 2147483648) : (!decide (x.toInt64 < 0) && !decide (Int64.ofNat m < x.toInt64)) = (decide (0 ≤ x) && decide (x ≤ i m)) := by
  have e1 : decide (x.toInt64 < 0) = !decide (0 ≤ x) := by
    by_cases h : 0 ≤ x
    · rw [decide_eq_true h]
      refine decide_eq_false ?_
      rw [Int64.lt_iff_toInt_lt, Int32.toInt_toInt64]
      rw [Int32.le_iff_toInt_le] at h
      have a1 : (0 : Int32).toInt = 0 := rfl
      have a2 : (0 : Int64).toInt = 0 := rfl
      omega
    · rw [decide_eq_false h]
      refine decide_eq_true ?_
      rw [Int64.lt_iff_toInt_lt, Int32.toInt_toInt64]
      rw [Int32.le_iff_toInt_le] at h
      have a1 : (0 : Int32).toInt = 0 := rfl
      have a2 : (0 : Int64).toInt = 0 := rfl
      omega
  have e2 : decide (Int64.ofNat m < x.toInt64) = !decide (x ≤ i m) := by
    have a2 : (Int64.ofNat m).toInt = m := Int64.toInt_ofNat_of_lt (by omega)
    by_cases h : x ≤ i m
    · rw [decide_eq_true h]
      refine decide_eq_false ?_
      rw [Int64.lt_iff_toInt_lt, Int32.toInt_toInt64, a2]
      rw [Int32.le_iff_toInt_le, i_t hm] at h
      omega
    · rw [decide_eq_false h]
      refine decide_eq_true ?_
      rw [Int64.lt_iff_toInt_lt, Int32.toInt_toInt64, a2]
      rw [Int32.le_iff_toInt_le, i_t hm] at h
      omega
  rw [e1, e2, Bool.not_not, Bool.not_not]
theorem M_isSession_s {n : Nat} {x : Int32} {σ : J} (h : σ.1 24 13 0 = i n) : M_isSession n x σ = some (b01 (a_sess n x), σ) := by
  unfold M_isSession M_isSession_b0 M_isSession_b16 M_isSession_b17 a_sess
  simp only [and1_0, and1_1, if_true]
  rw [h]
  by_cases h0 : 0 ≤ x
  · rw [if_neg (nlt_of_le h0), decide_eq_true h0]
    by_cases h1 : x < i n
    · rw [if_neg (nle_of_lt h1), decide_eq_true h1]; rfl
    · rw [if_pos (le_of_nlt h1), decide_eq_false h1]; rfl
  · rw [if_pos (i_neg h0), decide_eq_false h0]; rfl
theorem M_standing_L {n : Nat} {σ : J} {line : List Nat} {x : Int32} (h : mL σ line) (hl : line.length ≤ 4) (h4 : ∀ s ∈ line, s < 4) (hnd : line.Nodup) : ∀ (m1 : List Nat) (j f : Nat) (p : Int32), line.drop j = m1 → j ≤ line.length → m1.length < f → M_standing_L4 n f x p (i j) σ = some (match m1.findIdx? (fun q => decide (i q = x)) with | some k => i (j + k) | none => p, σ) := by
  obtain ⟨h1, h2⟩ := h
  intro m1
  induction m1 with
  | nil =>
    intro j f p hd hj hf
    obtain ⟨f, rfl⟩ : ∃ g, f = g + 1 := ⟨f - 1, by omega⟩
    have := List.drop_eq_nil_iff.mp hd
    unfold M_standing_L4 M_standing_b4
    rw [h1, if_pos (by rw [i_le (by omega) (by omega)]; omega)]
    rfl
  | cons a m1 ih =>
    intro j f p hd hj hf
    obtain ⟨f, rfl⟩ : ∃ g, f = g + 1 := ⟨f - 1, by omega⟩
    obtain ⟨d1, d2⟩ := drop_cons hd
    have hjl := (List.getElem?_eq_some_iff.mp d1).1
    have hfl : m1.length < f := by simp at hf; omega
    have hnd1 : (a :: m1).Nodup := by rw [← hd]; exact hnd.sublist (List.drop_sublist _ _)
    unfold M_standing_L4 M_standing_b4 M_standing_b27
    rw [h1, if_neg (by rw [i_le (by omega) (by omega)]; omega), if_pos (by rw [i_in (by omega)]; omega), i_n (by omega), h2 j a d1, List.findIdx?_cons, l1, i_add]
    by_cases ha : i a = x
    · rw [if_pos ha, ih (j + 1) f (i j) d2 (by omega) hfl, if_pos (by simpa using ha)]
      have : m1.findIdx? (fun q => decide (i q = x)) = none := List.findIdx?_eq_none_iff.mpr (fun q hq => by
        have hq4 := h4 q (List.mem_of_mem_drop (i := j + 1) (by rw [d2]; exact hq))
        have ha4 := h4 a (List.mem_of_getElem? d1)
        rw [decide_eq_false_iff_not, ← ha, i_eq (by omega) (by omega)]
        exact fun e => (List.nodup_cons.mp hnd1).1 (e ▸ hq))
      rw [this]
      rfl
    · rw [if_neg ha, if_neg (by simpa using ha), ih (j + 1) f p d2 (by omega) hfl]
      cases m1.findIdx? (fun q => decide (i q = x)) with
      | none => rfl
      | some k =>
        show some (i (j + 1 + k), σ) = some (i (j + (k + 1)), σ)
        rw [show j + 1 + k = j + (k + 1) by omega]
theorem M_standing_s {n f : Nat} {σ : J} {line : List Nat} {x : Int32} (h : mL σ line) (hl : line.length ≤ 4) (h4 : ∀ s ∈ line, s < 4) (hnd : line.Nodup) (hf : 10 ≤ f) : M_standing n f x σ = some (a_place line x, σ) := by
  have := M_standing_L (n := n) (x := x) h hl h4 hnd line 0 f im rfl (by omega) (by omega)
  unfold M_standing M_standing_b0 a_place
  rw [show (0 : Int32) = i 0 from rfl]
  refine this.trans ?_
  cases line.findIdx? (fun q => decide (i q = x)) with
  | none => rfl
  | some k => show some (i (0 + k), σ) = some (i k, σ); rw [Nat.zero_add]
def mcode (o : Nat ⊕ Nat) (r : Bool) : Nat := match o with
  | .inr e => e
  | .inl _ => if r = true then 0 else 3
theorem place_neg {line : List Nat} {x : Int32} (hl : line.length ≤ 4) : (a_place line x < 0) = (a_place line x = im) := by
  unfold a_place
  cases h : line.findIdx? (fun q => decide (i q = x)) with
  | none => exact propext ⟨fun _ => rfl, fun _ => by decide⟩
  | some k =>
    have := List.findIdx?_eq_some_iff_findIdx_eq.mp h
    show (i k < 0) = (i k = im)
    rw [l0, i_lt (by omega) (by decide), i_m (by omega)]
    exact propext ⟨fun q => by omega, False.elim⟩
theorem M_first_s {n f : Nat} {σ : J} {line : List Nat} {x : Int32} {r : Bool} (hn : n ≤ 4) (hs : σ.1 24 13 0 = i n) (h : mL σ line) (hl : line.length ≤ 4) (h4 : ∀ s ∈ line, s < 4) (hnd : line.Nodup) (hf : 10 ≤ f) : M_first n f x (b01 r) σ = some (i (mcode (a_first n line x) r), σ) := by
  unfold M_first M_first_b0 M_first_b33 a_first
  rw [M_isSession_s hs, some_bind]
  dsimp only
  cases hse : a_sess n x with
  | false =>
    rw [if_pos (show b01 false = 0 from rfl), if_neg (show ¬ false = true by decide)]
    rfl
  | true =>
    obtain ⟨s, hs1, e1, e2⟩ := sess_i hn hse
    rw [if_neg (show ¬ b01 true = 0 by decide), if_pos rfl, M_standing_s h hl h4 hnd hf, some_bind, e2]
    dsimp only
    rw [e1]
    by_cases hm : s ∈ line
    · obtain ⟨k, k1, k2, k3, -⟩ := a_place_in h4 (show s < 4 by omega) hm
      rw [k1, if_neg (by rw [l0, i_lt (by omega) (by decide)]; omega), if_pos hm]
      rfl
    · rw [a_place_out h4 (show s < 4 by omega) hm, if_pos (show im < 0 by decide), if_neg hm]
      cases r with
      | true => rw [if_neg (show ¬ b01 true = 0 by decide)]; rfl
      | false => rw [if_pos (show b01 false = 0 from rfl)]; rfl
