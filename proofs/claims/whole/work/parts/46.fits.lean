/-! The class's matching of a tuple. Ours. -/
theorem kpN.rf {σ : J} {y : Nat} {bd : Bd} : kpN σ σ y bd := ⟨rfl, fun _ _ _ => ⟨rfl, rfl⟩⟩
theorem kpN.tr {σ τ υ : J} {y : Nat} {a b : Bd} (h1 : kpN σ τ y a) (h2 : kpN τ υ y b) (h : bdle a b) : kpN σ υ y a := ⟨h2.1.trans h1.1, fun v hv hs => ⟨(h2.2 v hv (h v hs)).1.trans (h1.2 v hv hs).1, (h2.2 v hv (h v hs)).2.trans (h1.2 v hv hs).2⟩⟩
def fQ (σ : J) (nums : List Int32) (bd : Bd) (o : Option Bd) (q : Int32 × J) : Prop := kpN σ q.2 0 bd ∧ fr (fun a b => 12 ≤ a ∧ a ≤ 15 ∧ b = 0) σ q.2 ∧ q.1 = b01 o.isSome ∧ ∀ bd1, o = some bd1 → cN q.2 0 (nums, bd1)
theorem a_fits_len {nums : List Int32} : ∀ {gs : List Fm} {xs : List FV} {bd : Bd}, gs.length ≠ xs.length → a_fits gs xs nums bd = none := by
  intro gs
  induction gs with
  | nil =>
    intro xs bd h
    cases xs with
    | nil => exact absurd rfl h
    | cons _ _ => rfl
  | cons g gs ih =>
    intro xs bd h
    cases xs with
    | nil => rfl
    | cons x xs =>
      show (a_holds g x nums bd).bind _ = none
      cases a_holds g x nums bd with
      | none => rfl
      | some b => exact ih (fun e => h (by rw [List.length_cons, List.length_cons, e]))
theorem drop_cons {α : Type} {l r : List α} {j : Nat} {a : α} (h : l.drop j = a :: r) : l[j]? = some a ∧ l.drop (j + 1) = r := by
  constructor
  · have := congrArg (fun q => q[0]?) h
    simpa [List.getElem?_drop] using this
  · rw [← List.drop_drop, h]
    rfl
theorem Pattern_fits_L {n z t : Nat} {gs : List Fm} {xs : List FV} {nums : List Int32} (hl : gs.length ≤ 4) (hx : xs.length ≤ 4) (hok : ∀ g ∈ gs, okG g) (hp : ∀ m ∈ nums, ∃ k, 1 ≤ k ∧ k < 2147483648 ∧ m = i k) (hn3 : nums.length ≤ 3) :
    ∀ (gs1 : List Fm) (xs1 : List FV) (j f : Nat) (σ : J) (bd : Bd), gs.drop j = gs1 → xs.drop j = xs1 → gs1.length = xs1.length → gs1.length < f → j ≤ 4 → cG σ z gs → cF σ t xs → cN σ 0 (nums, bd) → wp (Pattern_fits_L15 n f z t 0 (i j) σ) (fQ σ nums bd (a_fits gs1 xs1 nums bd)) := by
  intro gs1
  induction gs1 with
  | nil =>
    intro xs1 j f σ bd hg hxd hlen hf hj hG hF hN
    obtain ⟨f, rfl⟩ : ∃ g, f = g + 1 := ⟨f - 1, by omega⟩
    have hjl : gs.length ≤ j := List.drop_eq_nil_iff.mp hg
    cases xs1 with
    | cons _ _ => cases hlen
    | nil =>
      unfold Pattern_fits_L15 Pattern_fits_b15
      have h0 : σ.1 8 0 z = i gs.length := hG.1
      rw [h0]
      simp only [and1_1, if_true]
      rw [if_pos (by rw [i_le (by omega) (by omega)]; exact hjl), wp_some]
      exact ⟨kpN.rf, fr.rf, rfl, fun bd1 h => by cases h; exact hN⟩
  | cons g gs1 ih =>
    intro xs1 j f σ bd hg hxd hlen hf hj hG hF hN
    obtain ⟨f, rfl⟩ : ∃ g, f = g + 1 := ⟨f - 1, by omega⟩
    cases xs1 with
    | nil => cases hlen
    | cons x xs1 =>
      obtain ⟨g1, g2⟩ := drop_cons hg
      obtain ⟨x1, x2⟩ := drop_cons hxd
      have hjl := (List.getElem?_eq_some_iff.mp g1).1
      unfold Pattern_fits_L15 Pattern_fits_b15
      have h0 : σ.1 8 0 z = i gs.length := hG.1
      obtain ⟨f1, f2⟩ := hF.2 j x x1
      have hin : q_in (i j) 4 = true := by rw [i_in (by omega)]; omega
      rw [h0, if_neg (by rw [i_le (by omega) (by omega)]; omega), if_pos hin, if_pos hin, i_n (by omega), f1, f2]
      refine wp_bind (Pattern_holds_s (n := n) (x := x) hG g1 hl (hok g (List.mem_of_getElem? g1)) hN hp hn3) (fun q hq => ?_)
      unfold a_fits
      cases ho : a_holds g x nums bd with
      | none =>
        rw [ho] at hq
        replace hq : q = (b01 false, σ) := hq
        subst hq
        simp only [b01_0, if_true, and1_0, wp_some]
        exact ⟨kpN.rf, fr.rf, rfl, fun bd1 h => by cases h⟩
      | some bd1 =>
        rw [ho] at hq
        obtain ⟨q1, q2⟩ := q
        obtain ⟨h1, h2, h3, h4⟩ := hq
        replace h1 : q1 = b01 true := h1
        subst h1
        rw [if_neg (by rw [b01_0]; decide), l1, i_add]
        refine wp_mono (ih xs1 (j + 1) f q2 bd1 g2 x2 (by simpa using hlen) (by simp at hf; omega) (by omega) (hG.fr h4 (by omega) (by omega) (by omega) (by omega)) (hF.fr h4 (by omega) (by omega) (by omega)) h2) (fun r hr => ?_)
        exact ⟨h3.tr hr.1 (a_holds_le ho), h4.tr hr.2.1, hr.2.2.1, hr.2.2.2⟩
theorem Pattern_fits_s {n z t f : Nat} {gs : List Fm} {xs : List FV} {nums : List Int32} {bd : Bd} {σ : J} (hl : okGs gs) (hx : xs.length ≤ 4) (hp : ∀ m ∈ nums, ∃ k, 1 ≤ k ∧ k < 2147483648 ∧ m = i k) (hn3 : nums.length ≤ 3) (hf : 10 ≤ f) (hG : cG σ z gs) (hF : cF σ t xs) (hN : cN σ 0 (nums, bd)) : wp (Pattern_fits n f z t 0 σ) (fQ σ nums bd (a_fits gs xs nums bd)) := by
  have h0 : σ.1 8 0 z = i gs.length := hG.1
  have h1 : σ.1 5 0 t = i xs.length := hF.1
  have hl4 := hl.1
  unfold Pattern_fits Pattern_fits_b0
  rw [h0, h1]
  simp only [and1_0, if_true]
  refine wp_ite (fun h => ?_) (fun h => ?_)
  · rw [i_eq (by omega) (by omega)] at h
    exact Pattern_fits_L hl.1 hx hl.2 hp hn3 gs xs 0 f σ bd rfl rfl h.symm (by omega) (by omega) hG hF hN
  · rw [i_eq (by omega) (by omega)] at h
    rw [wp_some, a_fits_len (fun e => h e.symm)]
    exact ⟨kpN.rf, fr.rf, rfl, fun bd1 h => by cases h⟩
theorem JB_fitsAlone_s {n z t f : Nat} {gs : List Fm} {xs : List FV} {σ : J} (hl : okGs gs) (hx : xs.length ≤ 4) (hf : 10 ≤ f) (hG : cG σ z gs) (hF : cF σ t xs) : wp (JB_fitsAlone n f z t σ) (fun q => q.1 = b01 (a_fits gs xs [] bd0).isSome ∧ fr (fun a b => 12 ≤ a ∧ a ≤ 15 ∧ b = 0) σ q.2) := by
  unfold JB_fitsAlone JB_fitsAlone_b0
  refine wp_bind (Finding_clear_s (by omega)) (fun τ h => ?_)
  have h2 : fr (fun a b => 12 ≤ a ∧ a ≤ 15 ∧ b = 0) σ τ := h.2.up (fun k z h => by omega)
  refine wp_bind (Pattern_fits_s hl hx (fun m hm => by cases hm) (by decide) hf (hG.fr h2 (by omega) (by omega) (by omega) (by omega)) (hF.fr h2 (by omega) (by omega) (by omega)) h.1) (fun q hq => ?_)
  rw [hq.2.2.1]
  simp only [b01_a, if_true, wp_some]
  exact ⟨trivial, h2.tr hq.2.1⟩
