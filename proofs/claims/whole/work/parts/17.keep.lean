/-! A run writes only cells of the kinds that it can reach. Ours, written by keep.py -/
def q_ik (K : Nat → Bool) (v : PV) : Prop := match v with
  | .inr (.inr (some q)) => K q.1 = true
  | _ => True
def q_kst (K : Nat → Bool) : List PV → Prop
  | [] => True
  | v :: r => q_ik K v ∧ q_kst K r
def q_kL (K : Nat → Bool) (L : PL) : Prop := ∀ a v, L a = some v → q_ik K v
def q_sm (K : Nat → Bool) (σ τ : J) : Prop := ∀ k, K k = false → σ.1 k = τ.1 k ∧ σ.2.1 k = τ.2.1 k ∧ σ.2.2.1 k = τ.2.2.1 k ∧ σ.2.2.2 k = τ.2.2.2 k
def q_clK (K : Nat → Bool) : Prop := (∀ k w, q_ko k = some w → K k = true → ∀ d ∈ w.2, ¬ d.1 < 2 → K d.2.1 = true) ∧ ∀ k w, q_ka k = some w → K k = true → 2 < w.1 → K w.2.1 = true
def q_kp (K : Nat → Bool) (σ : J) (r : Res) : Prop := q_sm K σ r.2 ∧ ∀ v, r.1 = .inl (some v) → q_ik K v
theorem q_sm.rf {K : Nat → Bool} {σ : J} : q_sm K σ σ := fun _ _ => ⟨rfl, rfl, rfl, rfl⟩
theorem q_sm.tr {K : Nat → Bool} {σ τ υ : J} (h1 : q_sm K σ τ) (h2 : q_sm K τ υ) : q_sm K σ υ := fun k hk => ⟨(h1 k hk).1.trans (h2 k hk).1, (h1 k hk).2.1.trans (h2 k hk).2.1, (h1 k hk).2.2.1.trans (h2 k hk).2.2.1, (h1 k hk).2.2.2.trans (h2 k hk).2.2.2⟩
theorem q_sm.sI {K : Nat → Bool} {σ τ : J} (h : q_sm K σ τ) {k f i : Nat} {v : Int32} (hk : K k = true) : q_sm K σ (q_sI τ k f i v) := fun k' hk' => by
  have hne : ¬ k' = k := fun e => by rw [e, hk] at hk'; cases hk'
  refine ⟨(h k' hk').1.trans ?_, (h k' hk').2.1, (h k' hk').2.2.1, (h k' hk').2.2.2⟩
  funext x y
  exact (if_neg fun q => hne q.1).symm
theorem q_sm.sA {K : Nat → Bool} {σ τ : J} (h : q_sm K σ τ) {k i : Nat} {v : Nat → Int32} (hk : K k = true) : q_sm K σ (q_sA τ k i v) := fun k' hk' => by
  have hne : ¬ k' = k := fun e => by rw [e, hk] at hk'; cases hk'
  refine ⟨(h k' hk').1, (h k' hk').2.1.trans ?_, (h k' hk').2.2.1, (h k' hk').2.2.2⟩
  funext x
  exact (if_neg fun q => hne q.1).symm
theorem q_sm.sL {K : Nat → Bool} {σ τ : J} (h : q_sm K σ τ) {k i : Nat} {v : Nat → Int64} (hk : K k = true) : q_sm K σ (q_sL τ k i v) := fun k' hk' => by
  have hne : ¬ k' = k := fun e => by rw [e, hk] at hk'; cases hk'
  refine ⟨(h k' hk').1, (h k' hk').2.1, (h k' hk').2.2.1.trans ?_, (h k' hk').2.2.2⟩
  funext x
  exact (if_neg fun q => hne q.1).symm
theorem q_sm.sP {K : Nat → Bool} {σ τ : J} (h : q_sm K σ τ) {k i : Nat} {v : Nat → Nat} (hk : K k = true) : q_sm K σ (q_sP τ k i v) := fun k' hk' => by
  have hne : ¬ k' = k := fun e => by rw [e, hk] at hk'; cases hk'
  refine ⟨(h k' hk').1, (h k' hk').2.1, (h k' hk').2.2.1, (h k' hk').2.2.2.trans ?_⟩
  funext x
  exact (if_neg fun q => hne q.1).symm
theorem q_kL.s1 {K : Nat → Bool} {L : PL} (h : q_kL K L) {a : Nat} {v : PV} (hv : q_ik K v) : q_kL K (q_s1 L a v) := fun b w hw => by
  rcases q_s1_le hw with rfl | hw
  · exact hv
  · exact h b w hw
theorem q_kL.s2 {K : Nat → Bool} {L : PL} (h : q_kL K L) {a : Nat} {v : PV} (hv : q_ik K v) : q_kL K (q_s2 L a v) := fun b w hw => by
  rcases q_s2_le hw with rfl | hw
  · exact hv
  · exact h b w hw
theorem q_kst_app {K : Nat → Bool} {x y : List PV} : q_kst K (x ++ y) ↔ q_kst K x ∧ q_kst K y := by
  induction x with
  | nil => simp [q_kst]
  | cons v r ih => simp [q_kst, ih, and_assoc]
theorem q_kst_rev {K : Nat → Bool} {x : List PV} : q_kst K x.reverse ↔ q_kst K x := by
  induction x with
  | nil => simp [q_kst]
  | cons v r ih => simp [q_kst_app, q_kst, ih, and_comm]
theorem q_kst_mem {K : Nat → Bool} {x : List PV} (h : q_kst K x) : ∀ v ∈ x, q_ik K v := by
  induction x with
  | nil => intro v hv; cases hv
  | cons w r ih =>
    intro v hv
    rcases List.mem_cons.mp hv with rfl | hv
    · exact h.1
    · exact ih h.2 v hv
theorem q_af_or2 {n : Nat} {g : List PV → J → Option Res} {rest : List PV} {z r : Res} (h : q_af n g rest z = some r) : (∃ v σ1, z = (.inl v, σ1) ∧ g (v.toList ++ rest) σ1 = some r) ∨ ∃ ex σ1, z = (.inr ex, σ1) ∧ r = (.inr ex, σ1) := by
  obtain ⟨v | ex, σ1⟩ := z
  · left
    cases v with
    | none => exact ⟨none, σ1, rfl, h⟩
    | some v => exact ⟨some v, σ1, rfl, (q_bf (show (bif q_ok n v then g (v :: rest) σ1 else none) = some r from h)).2⟩
  · have h : some (Sum.inr ex, σ1) = some r := h
    exact Or.inr ⟨ex, σ1, rfl, (Option.some.inj h).symm⟩
section KEEP
variable {K : Nat → Bool} {n pc : Nat} {g : Nat → PL → List PV → J → Option Res} {cal : Nat → List PV → J → Option Res} {L : PL} {st : List PV} {σ σ0 : J} {ox : Int} {oa ob : Nat} {ol : List Nat} {r : Res}
theorem q_k_fv {k i f : Nat} {w : Nat × List (Nat × Nat × Nat)} {d : Nat × Nat × Nat} (hK : q_clK K) (hk : K k = true) (h : q_ko k = some w) (hd : w.2[f]? = some d) : q_ik K (q_fv σ k i f d) := by
  unfold q_fv
  by_cases h2 : d.1 < 2
  · rw [Nat.blt_eq.mpr h2]
    trivial
  · have e : Nat.blt d.1 2 = false := by
      cases hb : Nat.blt d.1 2 with
      | false => rfl
      | true => exact absurd (Nat.blt_eq.mp hb) h2
    rw [e]
    exact hK.1 k w h hk d (List.mem_of_getElem? hd) h2
theorem q_k_sw {x : Int32} {t : Nat} {G : Nat → Option Res} {P : Prop} (hG : ∀ t, G t = some r → P) (l : List Nat) : ∀ v, q_sw G x v l t = some r → P := by
  induction l with
  | nil => intro v h; exact hG t h
  | cons u l ih =>
    intro v h
    replace h : (if x = Int32.ofNat v then G u else q_sw G x (v + 1) l t) = some r := h
    by_cases hc : x = Int32.ofNat v
    · rw [if_pos hc] at h
      exact hG u h
    · rw [if_neg hc] at h
      exact ih (v + 1) h
theorem q_kstp {ci : Nat} (hK : q_clK K) (hg : ∀ pc L st σ, g pc L st σ = some r → q_sm K σ0 σ → q_kL K L → q_kst K st → q_kp K σ0 r) (hc : ∀ k vs σ z, cal k vs σ = some z → q_kst K vs → q_kp K σ z) (hs : q_sm K σ0 σ) (hL : q_kL K L) (hst : q_kst K st) (h : q_stp n g cal pc (ci, ox, oa, ob, ol) L st σ = some r) : q_kp K σ0 r := by
  by_cases hbig : 77 < ci ∨ ci = 5
  · rw [q_big hbig] at h
    cases h
  have hlt : ci < 78 := by omega
  match ci, hlt, h with
  | 0, _, h =>
    exact hg _ _ _ _ h hs hL ⟨trivial, hst⟩
  | 1, _, h =>
    exact hg _ _ _ _ h hs hL ⟨trivial, hst⟩
  | 2, _, h =>
    exact hg _ _ _ _ h hs hL ⟨trivial, hst⟩
  | 3, _, h =>
    exact hg _ _ _ _ h hs hL ⟨trivial, hst⟩
  | 4, _, h =>
    exact hg _ _ _ _ h hs hL ⟨trivial, hst⟩
  | 39, _, h =>
    exact hg _ _ _ _ h hs hL ⟨trivial, hst⟩
  | 6, _, h =>
    obtain ⟨v, e0, h⟩ := Option.bind_eq_some_iff.mp h
    obtain ⟨w, e1, h⟩ := Option.bind_eq_some_iff.mp h
    exact hg _ _ _ _ h hs hL ⟨hL _ _ e0, hst⟩
  | 7, _, h =>
    obtain ⟨v, e0, h⟩ := Option.bind_eq_some_iff.mp h
    obtain ⟨w, e1, h⟩ := Option.bind_eq_some_iff.mp h
    exact hg _ _ _ _ h hs hL ⟨hL _ _ e0, hst⟩
  | 8, _, h =>
    obtain ⟨v, e0, h⟩ := Option.bind_eq_some_iff.mp h
    obtain ⟨w, e1, h⟩ := Option.bind_eq_some_iff.mp h
    exact hg _ _ _ _ h hs hL ⟨hL _ _ e0, hst⟩
  | 9, _, h =>
    obtain ⟨v, e0, h⟩ := Option.bind_eq_some_iff.mp h
    obtain ⟨w, e1, h⟩ := Option.bind_eq_some_iff.mp h
    exact hg _ _ _ _ h hs hL ⟨hL _ _ e0, hst⟩
  | 10, _, h =>
    obtain ⟨v, e0, h⟩ := Option.bind_eq_some_iff.mp h
    obtain ⟨w, e1, h⟩ := Option.bind_eq_some_iff.mp h
    exact hg _ _ _ _ h hs hL ⟨hL _ _ e0, hst⟩
  | 11, _, h =>
    obtain ⟨v, e0, h⟩ := Option.bind_eq_some_iff.mp h
    obtain ⟨w, e1, h⟩ := Option.bind_eq_some_iff.mp h
    exact hg _ _ _ _ h hs hL ⟨hL _ _ e0, hst⟩
  | 12, _, h =>
    obtain ⟨x0, e0, h⟩ := Option.bind_eq_some_iff.mp h
    rw [q_pI_s e0] at hst
    exact hg _ _ _ _ h hs (hL.s1 hst.1) hst.2
  | 13, _, h =>
    obtain ⟨x0, e0, h⟩ := Option.bind_eq_some_iff.mp h
    rw [q_pI_s e0] at hst
    exact hg _ _ _ _ h hs (hL.s1 hst.1) hst.2
  | 14, _, h =>
    obtain ⟨x0, e0, h⟩ := Option.bind_eq_some_iff.mp h
    rw [q_pL_s e0] at hst
    exact hg _ _ _ _ h hs (hL.s2 hst.1) hst.2
  | 15, _, h =>
    obtain ⟨x0, e0, h⟩ := Option.bind_eq_some_iff.mp h
    rw [q_pL_s e0] at hst
    exact hg _ _ _ _ h hs (hL.s2 hst.1) hst.2
  | 16, _, h =>
    obtain ⟨x0, e0, h⟩ := Option.bind_eq_some_iff.mp h
    rw [q_pN_s e0] at hst
    exact hg _ _ _ _ h hs (hL.s1 hst.1) hst.2
  | 17, _, h =>
    obtain ⟨x0, e0, h⟩ := Option.bind_eq_some_iff.mp h
    rw [q_pN_s e0] at hst
    exact hg _ _ _ _ h hs (hL.s1 hst.1) hst.2
  | 18, _, h =>
    obtain ⟨v, e0, h⟩ := Option.bind_eq_some_iff.mp h
    obtain ⟨w, e1, h⟩ := Option.bind_eq_some_iff.mp h
    exact hg _ _ _ _ h hs (hL.s1 trivial) hst
  | 19, _, h =>
    obtain ⟨x0, e0, h⟩ := Option.bind_eq_some_iff.mp h
    obtain ⟨x1, e1, h⟩ := Option.bind_eq_some_iff.mp h
    rw [q_pI_s e0, q_pI_s e1] at hst
    exact hg _ _ _ _ h hs hL ⟨trivial, hst.2.2⟩
  | 20, _, h =>
    obtain ⟨x0, e0, h⟩ := Option.bind_eq_some_iff.mp h
    obtain ⟨x1, e1, h⟩ := Option.bind_eq_some_iff.mp h
    rw [q_pI_s e0, q_pI_s e1] at hst
    exact hg _ _ _ _ h hs hL ⟨trivial, hst.2.2⟩
  | 21, _, h =>
    obtain ⟨x0, e0, h⟩ := Option.bind_eq_some_iff.mp h
    obtain ⟨x1, e1, h⟩ := Option.bind_eq_some_iff.mp h
    rw [q_pI_s e0, q_pI_s e1] at hst
    exact hg _ _ _ _ h hs hL ⟨trivial, hst.2.2⟩
  | 23, _, h =>
    obtain ⟨x0, e0, h⟩ := Option.bind_eq_some_iff.mp h
    obtain ⟨x1, e1, h⟩ := Option.bind_eq_some_iff.mp h
    rw [q_pI_s e0, q_pI_s e1] at hst
    exact hg _ _ _ _ h hs hL ⟨trivial, hst.2.2⟩
  | 24, _, h =>
    obtain ⟨x0, e0, h⟩ := Option.bind_eq_some_iff.mp h
    obtain ⟨x1, e1, h⟩ := Option.bind_eq_some_iff.mp h
    rw [q_pI_s e0, q_pI_s e1] at hst
    exact hg _ _ _ _ h hs hL ⟨trivial, hst.2.2⟩
  | 25, _, h =>
    obtain ⟨x0, e0, h⟩ := Option.bind_eq_some_iff.mp h
    obtain ⟨x1, e1, h⟩ := Option.bind_eq_some_iff.mp h
    rw [q_pI_s e0, q_pI_s e1] at hst
    exact hg _ _ _ _ h hs hL ⟨trivial, hst.2.2⟩
  | 26, _, h =>
    obtain ⟨x0, e0, h⟩ := Option.bind_eq_some_iff.mp h
    obtain ⟨x1, e1, h⟩ := Option.bind_eq_some_iff.mp h
    rw [q_pI_s e0, q_pI_s e1] at hst
    exact hg _ _ _ _ h hs hL ⟨trivial, hst.2.2⟩
  | 22, _, h =>
    obtain ⟨x0, e0, h⟩ := Option.bind_eq_some_iff.mp h
    obtain ⟨x1, e1, h⟩ := Option.bind_eq_some_iff.mp h
    rw [q_pI_s e0, q_pI_s e1] at hst
    by_cases hz : x0.1 = 0
    · rw [if_pos hz] at h
      cases h
    · rw [if_neg hz] at h
      exact hg _ _ _ _ h hs hL ⟨trivial, hst.2.2⟩
  | 27, _, h =>
    obtain ⟨x0, e0, h⟩ := Option.bind_eq_some_iff.mp h
    obtain ⟨x1, e1, h⟩ := Option.bind_eq_some_iff.mp h
    rw [q_pL_s e0, q_pL_s e1] at hst
    exact hg _ _ _ _ h hs hL ⟨trivial, hst.2.2⟩
  | 28, _, h =>
    obtain ⟨x0, e0, h⟩ := Option.bind_eq_some_iff.mp h
    obtain ⟨x1, e1, h⟩ := Option.bind_eq_some_iff.mp h
    rw [q_pL_s e0, q_pL_s e1] at hst
    exact hg _ _ _ _ h hs hL ⟨trivial, hst.2.2⟩
  | 29, _, h =>
    obtain ⟨x0, e0, h⟩ := Option.bind_eq_some_iff.mp h
    obtain ⟨x1, e1, h⟩ := Option.bind_eq_some_iff.mp h
    rw [q_pL_s e0, q_pL_s e1] at hst
    exact hg _ _ _ _ h hs hL ⟨trivial, hst.2.2⟩
  | 35, _, h =>
    obtain ⟨x0, e0, h⟩ := Option.bind_eq_some_iff.mp h
    obtain ⟨x1, e1, h⟩ := Option.bind_eq_some_iff.mp h
    rw [q_pL_s e0, q_pL_s e1] at hst
    exact hg _ _ _ _ h hs hL ⟨trivial, hst.2.2⟩
  | 30, _, h =>
    obtain ⟨x0, e0, h⟩ := Option.bind_eq_some_iff.mp h
    obtain ⟨x1, e1, h⟩ := Option.bind_eq_some_iff.mp h
    rw [q_pI_s e0, q_pL_s e1] at hst
    exact hg _ _ _ _ h hs hL ⟨trivial, hst.2.2⟩
  | 31, _, h =>
    obtain ⟨x0, e0, h⟩ := Option.bind_eq_some_iff.mp h
    obtain ⟨x1, e1, h⟩ := Option.bind_eq_some_iff.mp h
    rw [q_pI_s e0, q_pL_s e1] at hst
    exact hg _ _ _ _ h hs hL ⟨trivial, hst.2.2⟩
  | 32, _, h =>
    obtain ⟨x0, e0, h⟩ := Option.bind_eq_some_iff.mp h
    obtain ⟨x1, e1, h⟩ := Option.bind_eq_some_iff.mp h
    rw [q_pI_s e0, q_pL_s e1] at hst
    exact hg _ _ _ _ h hs hL ⟨trivial, hst.2.2⟩
  | 33, _, h =>
    obtain ⟨x0, e0, h⟩ := Option.bind_eq_some_iff.mp h
    rw [q_pI_s e0] at hst
    exact hg _ _ _ _ h hs hL ⟨trivial, hst.2⟩
  | 34, _, h =>
    obtain ⟨x0, e0, h⟩ := Option.bind_eq_some_iff.mp h
    rw [q_pL_s e0] at hst
    exact hg _ _ _ _ h hs hL ⟨trivial, hst.2⟩
  | 36, _, h =>
    obtain ⟨x0, e0, h⟩ := Option.bind_eq_some_iff.mp h
    rw [q_p1_s e0] at hst
    exact hg _ _ _ _ h hs hL ⟨hst.1, hst⟩
  | 37, _, h =>
    obtain ⟨x0, e0, h⟩ := Option.bind_eq_some_iff.mp h
    rw [q_p1_s e0] at hst
    exact hg _ _ _ _ h hs hL hst.2
  | 38, _, h =>
    obtain ⟨x0, e0, h⟩ := Option.bind_eq_some_iff.mp h
    obtain ⟨x1, e1, h⟩ := Option.bind_eq_some_iff.mp h
    rw [q_p1_s e0, q_p1_s e1] at hst
    exact hg _ _ _ _ h hs hL ⟨hst.1, hst.2.1, hst⟩
  | 40, _, h =>
    obtain ⟨x0, e0, h⟩ := Option.bind_eq_some_iff.mp h
    rw [q_pN_s e0] at hst
    obtain ⟨y, z⟩ := x0
    cases y <;> exact hg _ _ _ _ h hs hL hst.2
  | 41, _, h =>
    obtain ⟨x0, e0, h⟩ := Option.bind_eq_some_iff.mp h
    rw [q_pN_s e0] at hst
    obtain ⟨y, z⟩ := x0
    cases y <;> exact hg _ _ _ _ h hs hL hst.2
  | 42, _, h =>
    exact hg _ _ _ _ h hs hL hst
  | 43, _, h =>
    obtain ⟨x0, e0, h⟩ := Option.bind_eq_some_iff.mp h
    rw [q_pI_s e0] at hst
    split at h <;> exact hg _ _ _ _ h hs hL hst.2
  | 44, _, h =>
    obtain ⟨x0, e0, h⟩ := Option.bind_eq_some_iff.mp h
    rw [q_pI_s e0] at hst
    split at h <;> exact hg _ _ _ _ h hs hL hst.2
  | 45, _, h =>
    obtain ⟨x0, e0, h⟩ := Option.bind_eq_some_iff.mp h
    rw [q_pI_s e0] at hst
    split at h <;> exact hg _ _ _ _ h hs hL hst.2
  | 46, _, h =>
    obtain ⟨x0, e0, h⟩ := Option.bind_eq_some_iff.mp h
    rw [q_pI_s e0] at hst
    split at h <;> exact hg _ _ _ _ h hs hL hst.2
  | 47, _, h =>
    obtain ⟨x0, e0, h⟩ := Option.bind_eq_some_iff.mp h
    rw [q_pI_s e0] at hst
    split at h <;> exact hg _ _ _ _ h hs hL hst.2
  | 48, _, h =>
    obtain ⟨x0, e0, h⟩ := Option.bind_eq_some_iff.mp h
    rw [q_pI_s e0] at hst
    split at h <;> exact hg _ _ _ _ h hs hL hst.2
  | 49, _, h =>
    obtain ⟨x0, e0, h⟩ := Option.bind_eq_some_iff.mp h
    obtain ⟨x1, e1, h⟩ := Option.bind_eq_some_iff.mp h
    rw [q_pI_s e0, q_pI_s e1] at hst
    split at h <;> exact hg _ _ _ _ h hs hL hst.2.2
  | 50, _, h =>
    obtain ⟨x0, e0, h⟩ := Option.bind_eq_some_iff.mp h
    obtain ⟨x1, e1, h⟩ := Option.bind_eq_some_iff.mp h
    rw [q_pI_s e0, q_pI_s e1] at hst
    split at h <;> exact hg _ _ _ _ h hs hL hst.2.2
  | 51, _, h =>
    obtain ⟨x0, e0, h⟩ := Option.bind_eq_some_iff.mp h
    obtain ⟨x1, e1, h⟩ := Option.bind_eq_some_iff.mp h
    rw [q_pI_s e0, q_pI_s e1] at hst
    split at h <;> exact hg _ _ _ _ h hs hL hst.2.2
  | 52, _, h =>
    obtain ⟨x0, e0, h⟩ := Option.bind_eq_some_iff.mp h
    obtain ⟨x1, e1, h⟩ := Option.bind_eq_some_iff.mp h
    rw [q_pI_s e0, q_pI_s e1] at hst
    split at h <;> exact hg _ _ _ _ h hs hL hst.2.2
  | 53, _, h =>
    obtain ⟨x0, e0, h⟩ := Option.bind_eq_some_iff.mp h
    obtain ⟨x1, e1, h⟩ := Option.bind_eq_some_iff.mp h
    rw [q_pI_s e0, q_pI_s e1] at hst
    split at h <;> exact hg _ _ _ _ h hs hL hst.2.2
  | 54, _, h =>
    obtain ⟨x0, e0, h⟩ := Option.bind_eq_some_iff.mp h
    obtain ⟨x1, e1, h⟩ := Option.bind_eq_some_iff.mp h
    rw [q_pI_s e0, q_pI_s e1] at hst
    split at h <;> exact hg _ _ _ _ h hs hL hst.2.2
  | 55, _, h =>
    obtain ⟨x0, e0, h⟩ := Option.bind_eq_some_iff.mp h
    rw [q_pI_s e0] at hst
    exact q_k_sw (fun t h => hg _ _ _ _ h hs hL hst.2) _ _ h
  | 56, _, h =>
    obtain ⟨x0, e0, h⟩ := Option.bind_eq_some_iff.mp h
    rw [q_pR_s e0] at hst
    obtain ⟨w, ew, h⟩ := Option.bind_eq_some_iff.mp h
    obtain ⟨hb, h⟩ := q_bf h
    obtain ⟨d, ed, h⟩ := Option.bind_eq_some_iff.mp h
    exact hg _ _ _ _ h hs hL ⟨q_k_fv hK hst.1 ew ed, hst.2⟩
  | 57, _, h =>
    obtain ⟨x0, e0, h⟩ := Option.bind_eq_some_iff.mp h
    obtain ⟨x1, e1, h⟩ := Option.bind_eq_some_iff.mp h
    rw [q_pI_s e0, q_pR_s e1] at hst
    obtain ⟨w, ew, h⟩ := Option.bind_eq_some_iff.mp h
    obtain ⟨hb, h⟩ := q_bf h
    obtain ⟨d, ed, h⟩ := Option.bind_eq_some_iff.mp h
    cases h0 : Nat.beq d.1 0 with
    | true =>
      rw [h0] at h
      exact hg _ _ _ _ h (hs.sI hst.2.1) hL hst.2.2
    | false =>
      rw [h0] at h
      obtain ⟨h1, h⟩ := q_bf h
      split at h
      · exact hg _ _ _ _ h (hs.sI hst.2.1) hL hst.2.2
      · cases h
  | 58, _, h =>
    obtain ⟨x0, e0, h⟩ := Option.bind_eq_some_iff.mp h
    obtain ⟨x1, e1, h⟩ := Option.bind_eq_some_iff.mp h
    rw [q_pI_s e0, q_pR_s e1] at hst
    obtain ⟨w, ew, h⟩ := Option.bind_eq_some_iff.mp h
    obtain ⟨hb, h⟩ := q_bf h
    obtain ⟨hz, h⟩ := q_bf h
    exact hg _ _ _ _ h hs hL ⟨trivial, hst.2.2⟩
  | 59, _, h =>
    obtain ⟨x0, e0, h⟩ := Option.bind_eq_some_iff.mp h
    obtain ⟨x1, e1, h⟩ := Option.bind_eq_some_iff.mp h
    rw [q_pI_s e0, q_pR_s e1] at hst
    obtain ⟨w, ew, h⟩ := Option.bind_eq_some_iff.mp h
    obtain ⟨hb, h⟩ := q_bf h
    obtain ⟨hz, h⟩ := q_bf h
    exact hg _ _ _ _ h hs hL ⟨trivial, hst.2.2⟩
  | 61, _, h =>
    obtain ⟨x0, e0, h⟩ := Option.bind_eq_some_iff.mp h
    obtain ⟨x1, e1, h⟩ := Option.bind_eq_some_iff.mp h
    rw [q_pI_s e0, q_pR_s e1] at hst
    obtain ⟨w, ew, h⟩ := Option.bind_eq_some_iff.mp h
    obtain ⟨hb, h⟩ := q_bf h
    obtain ⟨hz, h⟩ := q_bf h
    exact hg _ _ _ _ h hs hL ⟨trivial, hst.2.2⟩
  | 60, _, h =>
    obtain ⟨x0, e0, h⟩ := Option.bind_eq_some_iff.mp h
    obtain ⟨x1, e1, h⟩ := Option.bind_eq_some_iff.mp h
    rw [q_pI_s e0, q_pR_s e1] at hst
    obtain ⟨w, ew, h⟩ := Option.bind_eq_some_iff.mp h
    obtain ⟨hb, h⟩ := q_bf h
    obtain ⟨hz, h⟩ := q_bf h
    obtain ⟨hy, h⟩ := q_bf h
    exact hg _ _ _ _ h hs hL ⟨hK.2 _ _ ew hst.2.1 (Nat.blt_eq.mp hb), hst.2.2⟩
  | 62, _, h =>
    obtain ⟨x0, e0, h⟩ := Option.bind_eq_some_iff.mp h
    obtain ⟨x1, e1, h⟩ := Option.bind_eq_some_iff.mp h
    obtain ⟨x2, e2, h⟩ := Option.bind_eq_some_iff.mp h
    rw [q_pI_s e0, q_pI_s e1, q_pR_s e2] at hst
    obtain ⟨w, ew, h⟩ := Option.bind_eq_some_iff.mp h
    obtain ⟨hb, h⟩ := q_bf h
    obtain ⟨hz, h⟩ := q_bf h
    exact hg _ _ _ _ h (hs.sA hst.2.2.1) hL hst.2.2.2
  | 63, _, h =>
    obtain ⟨x0, e0, h⟩ := Option.bind_eq_some_iff.mp h
    obtain ⟨x1, e1, h⟩ := Option.bind_eq_some_iff.mp h
    obtain ⟨x2, e2, h⟩ := Option.bind_eq_some_iff.mp h
    rw [q_pL_s e0, q_pI_s e1, q_pR_s e2] at hst
    obtain ⟨w, ew, h⟩ := Option.bind_eq_some_iff.mp h
    obtain ⟨hb, h⟩ := q_bf h
    obtain ⟨hz, h⟩ := q_bf h
    exact hg _ _ _ _ h (hs.sL hst.2.2.1) hL hst.2.2.2
  | 64, _, h =>
    obtain ⟨x0, e0, h⟩ := Option.bind_eq_some_iff.mp h
    obtain ⟨x1, e1, h⟩ := Option.bind_eq_some_iff.mp h
    obtain ⟨x2, e2, h⟩ := Option.bind_eq_some_iff.mp h
    rw [q_pR_s e0, q_pI_s e1, q_pR_s e2] at hst
    obtain ⟨w, ew, h⟩ := Option.bind_eq_some_iff.mp h
    obtain ⟨hb, h⟩ := q_bf h
    obtain ⟨hz, h⟩ := q_bf h
    exact hg _ _ _ _ h (hs.sP hst.2.2.1) hL hst.2.2.2
  | 65, _, h =>
    obtain ⟨x0, e0, h⟩ := Option.bind_eq_some_iff.mp h
    obtain ⟨x1, e1, h⟩ := Option.bind_eq_some_iff.mp h
    obtain ⟨x2, e2, h⟩ := Option.bind_eq_some_iff.mp h
    rw [q_pI_s e0, q_pI_s e1, q_pR_s e2] at hst
    obtain ⟨w, ew, h⟩ := Option.bind_eq_some_iff.mp h
    obtain ⟨hb, h⟩ := q_bf h
    obtain ⟨hz, h⟩ := q_bf h
    split at h
    · exact hg _ _ _ _ h (hs.sA hst.2.2.1) hL hst.2.2.2
    · cases h
  | 66, _, h =>
    obtain ⟨x0, e0, h⟩ := Option.bind_eq_some_iff.mp h
    rw [q_pR_s e0] at hst
    obtain ⟨w, ew, h⟩ := Option.bind_eq_some_iff.mp h
    exact hg _ _ _ _ h hs hL ⟨trivial, hst.2⟩
  | 67, _, h =>
    obtain ⟨a, ea, h⟩ := Option.bind_eq_some_iff.mp h
    obtain ⟨q, eq, h⟩ := Option.bind_eq_some_iff.mp h
    obtain ⟨w, ew, h⟩ := Option.bind_eq_some_iff.mp h
    obtain ⟨hb, h⟩ := q_bf h
    obtain ⟨z, ez, h⟩ := Option.bind_eq_some_iff.mp h
    rw [(q_pop_s _ ea).1, q_pR_s eq] at hst
    have hst2 := q_kst_app.mp hst
    have hz := hc _ _ _ _ ez ⟨hst2.2.1, q_kst_rev.mp hst2.1⟩
    rcases q_af_or2 h with ⟨v, σ1, rfl, h2⟩ | ⟨ex, σ1, rfl, rfl⟩
    · refine hg _ _ _ _ h2 (hs.tr hz.1) hL (q_kst_app.mpr ⟨?_, hst2.2.2⟩)
      cases v with
      | none => trivial
      | some v => exact ⟨hz.2 v rfl, trivial⟩
    · exact ⟨hs.tr hz.1, fun v hv => by cases hv⟩
  | 68, _, h =>
    obtain ⟨a, ea, h⟩ := Option.bind_eq_some_iff.mp h
    obtain ⟨hb, h⟩ := q_bf h
    obtain ⟨z, ez, h⟩ := Option.bind_eq_some_iff.mp h
    rw [(q_pop_s _ ea).1] at hst
    have hst2 := q_kst_app.mp hst
    have hz := hc _ _ _ _ ez (q_kst_rev.mp hst2.1)
    rcases q_af_or2 h with ⟨v, σ1, rfl, h2⟩ | ⟨ex, σ1, rfl, rfl⟩
    · refine hg _ _ _ _ h2 (hs.tr hz.1) hL (q_kst_app.mpr ⟨?_, hst2.2⟩)
      cases v with
      | none => trivial
      | some v => exact ⟨hz.2 v rfl, trivial⟩
    · exact ⟨hs.tr hz.1, fun v hv => by cases hv⟩
  | 69, _, h =>
    obtain ⟨x0, e0, h⟩ := Option.bind_eq_some_iff.mp h
    obtain ⟨x1, e1, h⟩ := Option.bind_eq_some_iff.mp h
    obtain ⟨x2, e2, h⟩ := Option.bind_eq_some_iff.mp h
    obtain ⟨x3, e3, h⟩ := Option.bind_eq_some_iff.mp h
    obtain ⟨x4, e4, h⟩ := Option.bind_eq_some_iff.mp h
    rw [q_pI_s e0, q_pI_s e1, q_pR_s e2, q_pI_s e3, q_pR_s e4] at hst
    obtain ⟨wa, ewa, h⟩ := Option.bind_eq_some_iff.mp h
    obtain ⟨wb, ewb, h⟩ := Option.bind_eq_some_iff.mp h
    obtain ⟨hb, h⟩ := q_bf h
    cases hk : (Nat.beq wa.1 0 && Nat.beq wb.1 0) with
    | true =>
      rw [hk] at h
      exact hg _ _ _ _ h (hs.sA hst.2.2.1) hL hst.2.2.2.2.2
    | false =>
      rw [hk] at h
      obtain ⟨hk2, h⟩ := q_bf h
      exact hg _ _ _ _ h (hs.sL hst.2.2.1) hL hst.2.2.2.2.2
  | 70, _, h =>
    obtain ⟨x0, e0, h⟩ := Option.bind_eq_some_iff.mp h
    obtain ⟨x1, e1, h⟩ := Option.bind_eq_some_iff.mp h
    rw [q_pL_s e0, q_pL_s e1] at hst
    obtain ⟨hb, h⟩ := q_bf h
    exact hg _ _ _ _ h hs hL ⟨trivial, hst.2.2⟩
  | 71, _, h =>
    obtain ⟨x0, e0, h⟩ := Option.bind_eq_some_iff.mp h
    obtain ⟨x1, e1, h⟩ := Option.bind_eq_some_iff.mp h
    rw [q_pL_s e0, q_pL_s e1] at hst
    obtain ⟨hb, h⟩ := q_bf h
    exact hg _ _ _ _ h hs hL ⟨trivial, hst.2.2⟩
  | 72, _, h =>
    obtain ⟨x0, e0, h⟩ := Option.bind_eq_some_iff.mp h
    rw [q_pI_s e0] at hst
    obtain ⟨y, z⟩ := x0
    cases z with
    | cons _ _ => cases h
    | nil =>
      cases h
      exact ⟨hs, fun v hv => by cases hv; exact hst.1⟩
  | 74, _, h =>
    obtain ⟨x0, e0, h⟩ := Option.bind_eq_some_iff.mp h
    rw [q_pL_s e0] at hst
    obtain ⟨y, z⟩ := x0
    cases z with
    | cons _ _ => cases h
    | nil =>
      cases h
      exact ⟨hs, fun v hv => by cases hv; exact hst.1⟩
  | 75, _, h =>
    obtain ⟨x0, e0, h⟩ := Option.bind_eq_some_iff.mp h
    rw [q_pN_s e0] at hst
    obtain ⟨y, z⟩ := x0
    cases z with
    | cons _ _ => cases h
    | nil =>
      cases h
      exact ⟨hs, fun v hv => by cases hv; exact hst.1⟩
  | 73, _, h =>
    obtain ⟨x0, e0, h⟩ := Option.bind_eq_some_iff.mp h
    rw [q_pI_s e0] at hst
    obtain ⟨y, z⟩ := x0
    cases z with
    | cons _ _ => cases h
    | nil =>
      replace h : (if y &&& 1 = y then some (Sum.inl (some (Sum.inl y)), σ) else none) = some r := h
      split at h
      · cases h
        exact ⟨hs, fun v hv => by cases hv; exact hst.1⟩
      · cases h
  | 76, _, h =>
    cases st with
    | cons _ _ =>
      replace h : none = some r := h
      cases h
    | nil =>
      replace h : some (Sum.inl none, σ) = some r := h
      cases h
      exact ⟨hs, fun v hv => by cases hv⟩
  | 77, _, h =>
    cases st with
    | cons _ _ =>
      replace h : none = some r := h
      cases h
    | nil =>
      replace h : some (Sum.inr oa, σ) = some r := h
      cases h
      exact ⟨hs, fun v hv => by cases hv⟩
  | 5, _, h => exact absurd (Or.inr rfl) hbig
  | _ + 78, hl, _ => omega
end KEEP
theorem q_kargs {K : Nat → Bool} {vs : List PV} (h : q_kst K vs) : q_kL K (q_args 0 vs) := fun b v hb => q_kst_mem h v (q_args_in (ad := fun _ _ => 0) hb).1
theorem q_keep {K : Nat → Bool} (hK : q_clK K) {pr : Nat → Nat → Option Op} {n : Nat} : ∀ (f d k pc : Nat) (L : PL) (st : List PV) (σ : J) (r : Res), q_run pr n d f k pc L st σ = some r → q_kL K L → q_kst K st → q_kp K σ r := by
  intro f
  induction f with
  | zero => intro d k pc L st σ r h; cases h
  | succ f ih =>
    intro d k pc L st σ r h hL hst
    unfold q_run at h
    cases ho : pr k pc with
    | none => rw [ho] at h; cases h
    | some o =>
      rw [ho] at h
      obtain ⟨ci, ox, oa, ob, ol⟩ := o
      refine q_kstp (σ0 := σ) hK (fun pc' L' st' σ' h hs hL hst => ?_) (fun k' vs σ' z hz hv => ?_) q_sm.rf hL hst h
      · have h2 := ih d k pc' L' st' σ' r h hL hst
        exact ⟨hs.tr h2.1, h2.2⟩
      · cases d with
        | zero => cases hz
        | succ d => exact ih d k' 0 _ [] σ' z hz (q_kargs hv) trivial
/-- the class's kinds, the reference's kinds -/
def q_KC (k : Nat) : Bool := Nat.blt k 23
def q_KM (k : Nat) : Bool := Nat.blt 23 k && Nat.blt k 63
def q_clB2 (K : Nat → Bool) : Bool := (List.range q_kot.length).all (fun k => !K k || match q_ko k with
  | none => true
  | some w => w.2.all fun d => Nat.blt d.1 2 || K d.2.1) && (List.range q_kat.length).all (fun k => !K k || match q_ka k with
  | none => true
  | some w => Nat.blt w.1 3 || K w.2.1)
theorem q_clK_of {K : Nat → Bool} (h : q_clB2 K = true) : q_clK K := by
  unfold q_clB2 at h
  rw [Bool.and_eq_true] at h
  constructor
  · intro k w hw hk d hd h2
    have h1 := List.all_eq_true.mp h.1 k (List.mem_range.mpr (q_ko_lt hw))
    rw [hk, hw] at h1
    have h3 := List.all_eq_true.mp (show (w.2.all fun d => Nat.blt d.1 2 || K d.2.1) = true from h1) d hd
    rw [Bool.or_eq_true] at h3
    rcases h3 with h3 | h3
    · exact absurd (Nat.blt_eq.mp h3) h2
    · exact h3
  · intro k w hw hk h2
    have hlt : k < q_kat.length := by
      apply Nat.lt_of_not_le
      intro hle
      unfold q_ka at hw
      rw [List.getD_eq_getElem?_getD, List.getElem?_eq_none hle] at hw
      cases hw
    have h1 := List.all_eq_true.mp h.2 k (List.mem_range.mpr hlt)
    rw [hk, hw] at h1
    have h3 : (Nat.blt w.1 3 || K w.2.1) = true := h1
    rw [Bool.or_eq_true] at h3
    rcases h3 with h3 | h3
    · have := Nat.blt_eq.mp h3
      omega
    · exact h3
theorem q_clC : q_clK q_KC := q_clK_of (by decide)
theorem q_clM : q_clK q_KM := q_clK_of (by decide)
/-- what a run of the class leaves alone; what a run of the reference leaves alone -/
theorem q_ex_C {n d k : Nat} {vs : List PV} {σ : J} {r : Res} (h : q_ex q_pr n d k 0 (q_args 0 vs) [] σ r) (hv : q_kst q_KC vs) : q_sm q_KC σ r.2 := by
  obtain ⟨f, hf⟩ := h
  exact (q_keep q_clC f d k 0 _ [] σ r hf (q_kargs hv) trivial).1
theorem q_ex_M {n d k : Nat} {vs : List PV} {σ : J} {r : Res} (h : q_ex q_pr n d k 0 (q_args 0 vs) [] σ r) (hv : q_kst q_KM vs) : q_sm q_KM σ r.2 := by
  obtain ⟨f, hf⟩ := h
  exact (q_keep q_clM f d k 0 _ [] σ r hf (q_kargs hv) trivial).1

