/-! The pure side: numbers, runs, frames. Ours. -/
/-- a small number as an int -/
def i (k : Nat) : Int32 := Int32.ofNat k
def im : Int32 := -1
theorem i_t {a : Nat} (h : a < 2147483648) : (i a).toInt = a := Int32.toInt_ofNat_of_lt h
theorem im_t : im.toInt = -1 := rfl
theorem i_eq {a b : Nat} (ha : a < 2147483648) (hb : b < 2147483648) : (i a = i b) = (a = b) := by
  apply propext
  constructor
  · intro h
    have := congrArg Int32.toInt h
    rw [i_t ha, i_t hb] at this
    omega
  · rintro rfl; rfl
theorem i_lt {a b : Nat} (ha : a < 2147483648) (hb : b < 2147483648) : (i a < i b) = (a < b) := by
  apply propext
  rw [Int32.lt_iff_toInt_lt, i_t ha, i_t hb]
  omega
theorem i_le {a b : Nat} (ha : a < 2147483648) (hb : b < 2147483648) : (i a ≤ i b) = (a ≤ b) := by
  apply propext
  rw [Int32.le_iff_toInt_le, i_t ha, i_t hb]
  omega
theorem i_m {a : Nat} (ha : a < 2147483648) : (i a = im) = False := by
  apply propext
  refine ⟨fun h => ?_, False.elim⟩
  have := congrArg Int32.toInt h
  rw [i_t ha, im_t] at this
  omega
theorem m_i {a : Nat} (ha : a < 2147483648) : (im = i a) = False := by
  rw [show (im = i a) = (i a = im) from propext ⟨Eq.symm, Eq.symm⟩, i_m ha]
theorem im_lt {a : Nat} (ha : a < 2147483648) : (im < i a) = True := by
  apply propext
  rw [Int32.lt_iff_toInt_lt, i_t ha, im_t]
  exact ⟨fun _ => trivial, fun _ => by omega⟩
theorem im_le {a : Nat} (ha : a < 2147483648) : (im ≤ i a) = True := by
  apply propext
  rw [Int32.le_iff_toInt_le, i_t ha, im_t]
  exact ⟨fun _ => trivial, fun _ => by omega⟩
theorem lt_im {a : Nat} (ha : a < 2147483648) : (i a < im) = False := by
  apply propext
  rw [Int32.lt_iff_toInt_lt, i_t ha, im_t]
  exact ⟨fun _ => by omega, False.elim⟩
theorem le_im {a : Nat} (ha : a < 2147483648) : (i a ≤ im) = False := by
  apply propext
  rw [Int32.le_iff_toInt_le, i_t ha, im_t]
  exact ⟨fun _ => by omega, False.elim⟩
theorem i_add (a b : Nat) : i a + i b = i (a + b) := by
  unfold i
  rw [Int32.ofNat_add]
theorem i_sub {a b : Nat} (h : b ≤ a) : i a - i b = i (a - b) := by
  have h2 := i_add (a - b) b
  rw [show a - b + b = a by omega] at h2
  rw [← h2]
  exact Int32.add_sub_cancel _ _
theorem i_addm {a : Nat} (h : 1 ≤ a) : i a + im = i (a - 1) := by
  rw [← i_sub h]
  exact (Int32.sub_eq_add_neg (i a) (i 1)).symm
theorem i_mul (a b : Nat) : i a * i b = i (a * b) := by
  unfold i
  rw [Int32.ofNat_mul]
theorem i_n {a : Nat} (h : a < 2147483648) : (i a).toNatClampNeg = a := by
  rw [← Int32.toNat_toInt, i_t h]
  rfl
theorem i_in {a m : Nat} (h : a < 2147483648) : (q_in (i a) m = true) = (a < m) := by
  unfold q_in
  rw [i_n h]
  apply propext
  rw [decide_eq_true_iff]
  constructor
  · intro h1
    exact Nat.lt_of_not_le (fun q => h1 (Or.inr q))
  · rintro h1 (h2 | h2)
    · rw [show (0 : Int32) = i 0 from rfl, i_lt h (by decide)] at h2
      omega
    · omega
theorem m_in {m : Nat} : (q_in im m = true) = False := by
  unfold q_in
  apply propext
  rw [decide_eq_true_iff]
  exact ⟨fun h => h (Or.inl (by decide)), False.elim⟩
theorem i_cpo {a b c m k : Nat} (ha : a < 2147483648) (hb : b < 2147483648) (hc : c < 2147483648) : (q_cpo (i a) (i b) (i c) m k = true) = (a + c ≤ m ∧ b + c ≤ k) := by
  unfold q_cpo
  apply propext
  simp only [Bool.and_eq_true, decide_eq_true_eq, i_n ha, i_n hb, i_n hc, Nat.ble_eq]
  rw [show (0 : Int32) = i 0 from rfl, i_lt ha (by decide), i_lt hb (by decide), i_lt hc (by decide)]
  omega
/-- an int as a small number, if it is one -/
theorem i_of {x : Int32} (h : 0 ≤ x) : x = i x.toNatClampNeg := by
  rw [Int32.le_iff_toInt_le] at h
  have h1 : (0 : Int32).toInt = 0 := rfl
  rw [h1] at h
  have h2 := Int32.toInt_lt x
  apply Int32.toInt_inj.mp
  rw [i_t (by rw [← Int32.toNat_toInt]; omega), ← Int32.toNat_toInt]
  omega
theorem i_cl (x : Int32) : x.toNatClampNeg < 2147483648 := by
  have h2 := Int32.toInt_lt x
  rw [← Int32.toNat_toInt]
  omega
theorem i_neg {x : Int32} (h : ¬ 0 ≤ x) : x < 0 := by
  rw [Int32.le_iff_toInt_le] at h
  rw [Int32.lt_iff_toInt_lt]
  omega
/-- yes and no -/
def b01 (b : Bool) : Int32 := if b = true then 1 else 0
theorem b01_0 {b : Bool} : (b01 b = 0) = (b = false) := by
  cases b
  · exact propext ⟨fun _ => rfl, fun _ => rfl⟩
  · exact propext ⟨fun h => absurd h (by decide), fun h => by cases h⟩
theorem b01_1 {b : Bool} : (b01 b = 1) = (b = true) := by
  cases b
  · exact propext ⟨fun h => absurd h (by decide), fun h => by cases h⟩
  · exact propext ⟨fun _ => rfl, fun _ => rfl⟩
theorem b01_a {b : Bool} : b01 b &&& 1 = b01 b := by cases b <;> rfl
theorem b01_o {a b : Bool} : b01 a ||| b01 b = b01 (a || b) := by cases a <;> cases b <;> rfl
theorem b01_f : (0 : Int32) = b01 false := rfl
theorem b01_t : (1 : Int32) = b01 true := rfl
/-- a run that answers, with what holds then -/
def wp {α : Type} (x : Option α) (P : α → Prop) : Prop := ∃ r, x = some r ∧ P r
theorem wp_some {α : Type} {r : α} {P : α → Prop} : wp (some r) P = P r := propext ⟨fun ⟨_, h, p⟩ => by cases h; exact p, fun p => ⟨_, rfl, p⟩⟩
theorem wp_mono {α : Type} {x : Option α} {P Q : α → Prop} (h : wp x P) (k : ∀ r, P r → Q r) : wp x Q := by
  obtain ⟨r, h1, h2⟩ := h
  exact ⟨r, h1, k r h2⟩
theorem wp_bind {α β : Type} {x : Option α} {k : α → Option β} {P : α → Prop} {Q : β → Prop} (h : wp x P) (hk : ∀ r, P r → wp (k r) Q) : wp (x.bind k) Q := by
  obtain ⟨r, h1, h2⟩ := h
  rw [h1]
  exact hk r h2
theorem wp_eq {α : Type} {x y : Option α} {P : α → Prop} (h : x = y) (k : wp y P) : wp x P := by rw [h]; exact k
theorem some_bind {α β : Type} (a : α) (k : α → Option β) : (some a).bind k = k a := rfl
theorem bs_eq {α β : Type} (a : α) (k : α → β) : q_bs a k = k a := rfl
theorem blt_eq {a b : Nat} : (Nat.blt a b = true) = (a < b) := Nat.blt_eq
/-- all but these cells stay -/
def fr (Z : Nat → Nat → Prop) (σ τ : J) : Prop := ∀ k z, ¬ Z k z → (∀ f, τ.1 k f z = σ.1 k f z) ∧ τ.2.1 k z = σ.2.1 k z ∧ τ.2.2.1 k z = σ.2.2.1 k z ∧ τ.2.2.2 k z = σ.2.2.2 k z
theorem fr.rf {Z : Nat → Nat → Prop} {σ : J} : fr Z σ σ := fun _ _ _ => ⟨fun _ => rfl, rfl, rfl, rfl⟩
theorem fr.tr {Z : Nat → Nat → Prop} {σ τ υ : J} (h1 : fr Z σ τ) (h2 : fr Z τ υ) : fr Z σ υ := fun k z hk => ⟨fun f => ((h2 k z hk).1 f).trans ((h1 k z hk).1 f), (h2 k z hk).2.1.trans (h1 k z hk).2.1, (h2 k z hk).2.2.1.trans (h1 k z hk).2.2.1, (h2 k z hk).2.2.2.trans (h1 k z hk).2.2.2⟩
theorem fr.up {Z Y : Nat → Nat → Prop} {σ τ : J} (h : fr Z σ τ) (hs : ∀ k z, Z k z → Y k z) : fr Y σ τ := fun k z hk => h k z (fun q => hk (hs k z q))
theorem fr.sI {Z : Nat → Nat → Prop} {σ τ : J} {k f z : Nat} {v : Int32} (h : fr Z σ τ) (hk : Z k z) : fr Z σ (q_sI τ k f z v) := fun x y hx => by
  refine ⟨fun g => ?_, (h x y hx).2⟩
  rw [← (h x y hx).1 g]
  show (if x = k ∧ g = f ∧ y = z then v else τ.1 x g y) = _
  rw [if_neg (fun q : x = k ∧ g = f ∧ y = z => hx (by rw [q.1, q.2.2]; exact hk))]
theorem fr.sA {Z : Nat → Nat → Prop} {σ τ : J} {k z : Nat} {g : Nat → Int32} (h : fr Z σ τ) (hk : Z k z) : fr Z σ (q_sA τ k z g) := fun x y hx => by
  refine ⟨(h x y hx).1, ?_, (h x y hx).2.2⟩
  rw [← (h x y hx).2.1]
  show (if x = k ∧ y = z then g else τ.2.1 x y) = _
  rw [if_neg (fun q : x = k ∧ y = z => hx (by rw [q.1, q.2]; exact hk))]
theorem fr.sL {Z : Nat → Nat → Prop} {σ τ : J} {k z : Nat} {g : Nat → Int64} (h : fr Z σ τ) (hk : Z k z) : fr Z σ (q_sL τ k z g) := fun x y hx => by
  refine ⟨(h x y hx).1, (h x y hx).2.1, ?_, (h x y hx).2.2.2⟩
  rw [← (h x y hx).2.2.1]
  show (if x = k ∧ y = z then g else τ.2.2.1 x y) = _
  rw [if_neg (fun q : x = k ∧ y = z => hx (by rw [q.1, q.2]; exact hk))]
theorem fr.sP {Z : Nat → Nat → Prop} {σ τ : J} {k z : Nat} {g : Nat → Nat} (h : fr Z σ τ) (hk : Z k z) : fr Z σ (q_sP τ k z g) := fun x y hx => by
  refine ⟨(h x y hx).1, (h x y hx).2.1, (h x y hx).2.2.1, ?_⟩
  rw [← (h x y hx).2.2.2]
  show (if x = k ∧ y = z then g else τ.2.2.2 x y) = _
  rw [if_neg (fun q : x = k ∧ y = z => hx (by rw [q.1, q.2]; exact hk))]
theorem l0 : (0 : Int32) = i 0 := rfl
theorem l1 : (1 : Int32) = i 1 := rfl
theorem l2 : (2 : Int32) = i 2 := rfl
theorem l3 : (3 : Int32) = i 3 := rfl
theorem l4 : (4 : Int32) = i 4 := rfl
theorem l5 : (5 : Int32) = i 5 := rfl
theorem l6 : (6 : Int32) = i 6 := rfl
theorem l7 : (7 : Int32) = i 7 := rfl
theorem l8 : (8 : Int32) = i 8 := rfl
theorem l9 : (9 : Int32) = i 9 := rfl
theorem l10 : (10 : Int32) = i 10 := rfl
theorem l12 : (12 : Int32) = i 12 := rfl
theorem l20 : (20 : Int32) = i 20 := rfl
theorem l100 : (100 : Int32) = i 100 := rfl
theorem l1000 : (1000 : Int32) = i 1000 := rfl
theorem lm : -(i 1) = im := rfl
theorem lo (k : Nat) : Int32.ofNat k = i k := rfl
theorem sI1 {σ : J} {k f z x y w : Nat} {v : Int32} : (q_sI σ k f z v).1 x y w = if x = k ∧ y = f ∧ w = z then v else σ.1 x y w := rfl
theorem sI2 {σ : J} {k f z : Nat} {v : Int32} : (q_sI σ k f z v).2 = σ.2 := rfl
theorem sA1 {σ : J} {k z : Nat} {g : Nat → Int32} : (q_sA σ k z g).1 = σ.1 := rfl
theorem sA2 {σ : J} {k z x y : Nat} {g : Nat → Int32} : (q_sA σ k z g).2.1 x y = if x = k ∧ y = z then g else σ.2.1 x y := rfl
theorem sA3 {σ : J} {k z : Nat} {g : Nat → Int32} : (q_sA σ k z g).2.2 = σ.2.2 := rfl
theorem sL1 {σ : J} {k z : Nat} {g : Nat → Int64} : (q_sL σ k z g).1 = σ.1 := rfl
theorem sL2 {σ : J} {k z : Nat} {g : Nat → Int64} : (q_sL σ k z g).2.1 = σ.2.1 := rfl
theorem sL3 {σ : J} {k z x y : Nat} {g : Nat → Int64} : (q_sL σ k z g).2.2.1 x y = if x = k ∧ y = z then g else σ.2.2.1 x y := rfl
theorem sL4 {σ : J} {k z : Nat} {g : Nat → Int64} : (q_sL σ k z g).2.2.2 = σ.2.2.2 := rfl
theorem sP1 {σ : J} {k z : Nat} {g : Nat → Nat} : (q_sP σ k z g).1 = σ.1 := rfl
theorem sP2 {σ : J} {k z : Nat} {g : Nat → Nat} : (q_sP σ k z g).2.1 = σ.2.1 := rfl
theorem sP3 {σ : J} {k z : Nat} {g : Nat → Nat} : (q_sP σ k z g).2.2.1 = σ.2.2.1 := rfl
theorem sP4 {σ : J} {k z x y : Nat} {g : Nat → Nat} : (q_sP σ k z g).2.2.2 x y = if x = k ∧ y = z then g else σ.2.2.2 x y := rfl
/-- comparing longs -/
theorem lq_ne {x y : Int64} (h1 : ¬ y < x) (h2 : ¬ x = y) : x < y := by
  rw [Int64.lt_iff_toInt_lt] at h1 ⊢
  have : ¬ x.toInt = y.toInt := fun q => h2 (Int64.toInt_inj.mp q)
  omega
theorem lq_v (x y : Int64) : (lg_cmp x y = 1 ∧ y < x) ∨ (lg_cmp x y = 0 ∧ x = y) ∨ (lg_cmp x y = -1 ∧ x < y) := by
  unfold lg_cmp
  by_cases h1 : x > y
  · exact Or.inl ⟨if_pos h1, h1⟩
  · rw [if_neg h1]
    by_cases h2 : x = y
    · exact Or.inr (Or.inl ⟨if_pos h2, h2⟩)
    · exact Or.inr (Or.inr ⟨if_neg h2, lq_ne h1 h2⟩)
theorem lq_as {x y : Int64} (h : x < y) : ¬ x = y ∧ ¬ y < x := by
  rw [Int64.lt_iff_toInt_lt] at h ⊢
  exact ⟨fun q => by rw [q] at h; omega, by omega⟩
theorem lq_eq {x y : Int64} : (lg_cmp x y = 0) = (x = y) := by
  apply propext
  rcases lq_v x y with ⟨h, g⟩ | ⟨h, g⟩ | ⟨h, g⟩ <;> rw [h]
  · exact ⟨fun q => absurd q (by decide), fun q => absurd q.symm (lq_as g).1⟩
  · exact ⟨fun _ => g, fun _ => rfl⟩
  · exact ⟨fun q => absurd q (by decide), fun q => absurd q (lq_as g).1⟩
theorem lq_lt {x y : Int64} : (lg_cmp x y < 0) = (x < y) := by
  apply propext
  rcases lq_v x y with ⟨h, g⟩ | ⟨h, g⟩ | ⟨h, g⟩ <;> rw [h]
  · exact ⟨fun q => absurd q (by decide), fun q => absurd q (lq_as g).2⟩
  · exact ⟨fun q => absurd q (by decide), fun q => absurd g (lq_as q).1⟩
  · exact ⟨fun _ => g, fun _ => by decide⟩
theorem lq_gt {x y : Int64} : (0 < lg_cmp x y) = (y < x) := by
  apply propext
  rcases lq_v x y with ⟨h, g⟩ | ⟨h, g⟩ | ⟨h, g⟩ <;> rw [h]
  · exact ⟨fun _ => g, fun _ => by decide⟩
  · exact ⟨fun q => absurd q (by decide), fun q => absurd g.symm (lq_as q).1⟩
  · exact ⟨fun q => absurd q (by decide), fun q => absurd q (lq_as g).2⟩
theorem lq_ge {x y : Int64} : (0 ≤ lg_cmp x y) = ¬ (x < y) := by
  apply propext
  rcases lq_v x y with ⟨h, g⟩ | ⟨h, g⟩ | ⟨h, g⟩ <;> rw [h]
  · exact ⟨fun _ => (lq_as g).2, fun _ => by decide⟩
  · exact ⟨fun _ q => (lq_as q).1 g, fun _ => by decide⟩
  · exact ⟨fun q => absurd q (by decide), fun q => absurd g q⟩
theorem lq_le {x y : Int64} : (lg_cmp x y ≤ 0) = ¬ (y < x) := by
  apply propext
  rcases lq_v x y with ⟨h, g⟩ | ⟨h, g⟩ | ⟨h, g⟩ <;> rw [h]
  · exact ⟨fun q => absurd q (by decide), fun q => absurd g q⟩
  · exact ⟨fun _ q => (lq_as q).1 g.symm, fun _ => by decide⟩
  · exact ⟨fun _ => (lq_as g).2, fun _ => by decide⟩
