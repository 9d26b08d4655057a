/-! Both sides of a call: what each leaves of the other. Ours. -/
theorem mA_sm {n : Nat} {a : Sq} {σ τ : J} (h : mA n σ a) (hs : q_sm q_KC σ τ) : mA n τ a := by
  have hf : mf (fun k => k < 23) (fun _ => False) σ τ := ⟨fun k hk => by
    obtain ⟨-, h2, h3, -⟩ := hs k (by unfold q_KC; rw [← Bool.not_eq_true, Nat.blt_eq]; exact hk)
    rw [h2, h3]; exact ⟨rfl, rfl⟩, fun f _ => by rw [(hs 24 rfl).1]⟩
  obtain ⟨now, lat, ts, line, dl, dr, pt, la, jo, tk, fn, os⟩ := a
  obtain ⟨h1, h2, h3, h4, h5, h6, h7, h8, h9, h10, h11, h12, h13⟩ := h
  exact ⟨by rw [hf.2 13 (fun q => q)]; exact h1, by rw [hf.2 3 (fun q => q)]; exact h2, by rw [hf.2 2 (fun q => q)]; exact h3, h4.fr hf (fun k _ _ => by omega) (fun q => q), h5.fr hf (by omega) (fun q => q), fun q hq => by rw [(hf.1 34 (by omega)).1]; exact h6 q hq, fun q hq => by rw [(hf.1 35 (by omega)).1, (hf.1 36 (by omega)).1, (hf.1 37 (by omega)).2]; exact h7 q hq, fun q p hq hp => (h8 q p hq hp).fr hf (fun k _ _ => (by omega)), fun q hq => by rw [(hf.1 45 (by omega)).1]; exact h9 q hq, fun q hq => by rw [(hf.1 43 (by omega)).1, (hf.1 44 (by omega)).1]; exact h10 q hq, fun q hq => (h11 q hq).fr hf (by omega) (by omega) (by omega), h12.fr hf (fun k _ _ => by omega) (by omega) (by omega) (by omega) (fun q => q), fun v hv => by rw [(hf.1 52 (by omega)).1]; exact h13 v hv⟩
theorem mA_23 {n : Nat} {a : Sq} {σ : J} {g : Nat → Int64} (h : mA n σ a) : mA n (q_sL σ 23 0 g) a := by
  have hf : mf (fun k => k = 23) (fun _ => False) σ (q_sL σ 23 0 g) := mf.rf.sL rfl
  obtain ⟨now, lat, ts, line, dl, dr, pt, la, jo, tk, fn, os⟩ := a
  obtain ⟨h1, h2, h3, h4, h5, h6, h7, h8, h9, h10, h11, h12, h13⟩ := h
  exact ⟨by rw [hf.2 13 (fun q => q)]; exact h1, by rw [hf.2 3 (fun q => q)]; exact h2, by rw [hf.2 2 (fun q => q)]; exact h3, h4.fr hf (fun k _ _ => by omega) (fun q => q), h5.fr hf (by omega) (fun q => q), fun q hq => by rw [(hf.1 34 (by omega)).1]; exact h6 q hq, fun q hq => by rw [(hf.1 35 (by omega)).1, (hf.1 36 (by omega)).1, (hf.1 37 (by omega)).2]; exact h7 q hq, fun q p hq hp => (h8 q p hq hp).fr hf (fun k _ _ => (by omega)), fun q hq => by rw [(hf.1 45 (by omega)).1]; exact h9 q hq, fun q hq => by rw [(hf.1 43 (by omega)).1, (hf.1 44 (by omega)).1]; exact h10 q hq, fun q hq => (h11 q hq).fr hf (by omega) (by omega) (by omega), h12.fr hf (fun k _ _ => by omega) (by omega) (by omega) (by omega) (fun q => q), fun v hv => by rw [(hf.1 52 (by omega)).1]; exact h13 v hv⟩
theorem cA_hi {n : Nat} {a : Sq} {σ τ : J} (h : cA n σ a) (hw : wfA n a) (hf : fr (fun k _ => 23 ≤ k ∧ k < 63) σ τ) : cA n τ a := by
  obtain ⟨now, lat, ts, line, dl, dr, pt, la, jo, tk, fn, os⟩ := a
  obtain ⟨g1, g2, g3, g4, g5, g6, g7, g8, g9, g10, g11, g12⟩ := h
  obtain ⟨w1, w2, w3, w4, w5, w6, w7, w8, w9, w10, w11, w12, w13⟩ := hw
  exact ⟨g1.fr hf (by omega) (fun q _ => Or.inl (by omega)) (fun q _ => (by omega)) (by omega), by rw [(hf 0 0 (by omega)).1]; exact g2, by rw [(hf 2 0 (by omega)).1]; exact g3, g4.fr hf (by omega) (by omega) (fun z _ => (by omega)), g5.fr hf (by omega) (by omega), fun q hq => by rw [(hf 16 q (by omega)).1]; exact g6 q hq, fun q hq => (g7 q hq).fr hf (by omega) (by omega) (by omega), g8.fr hf (fun a z _ _ _ => (by omega)), fun q hq => by rw [(hf 16 q (by omega)).1]; exact g9 q hq, fun q hq => by rw [(hf 16 q (by omega)).1, (hf 16 q (by omega)).1]; exact g10 q hq, fun q hq => (g11 q hq).fr hf (by omega) (by omega) (by omega) (by omega), g12.fr w10 hf (by omega) (fun a z _ _ _ => (by omega)) (fun z _ => (by omega))⟩
theorem cA_sm {n : Nat} {a : Sq} {σ τ : J} (h : cA n σ a) (hw : wfA n a) (hs : q_sm q_KM σ τ) : cA n τ a := cA_hi h hw (fun k z hk => by
  obtain ⟨h1, h2, h3, h4⟩ := hs k (by
    unfold q_KM
    rw [Bool.and_eq_false_iff]
    by_cases q : k < 63
    · exact Or.inl (by rw [← Bool.not_eq_true, Nat.blt_eq]; omega)
    · exact Or.inr (by rw [← Bool.not_eq_true, Nat.blt_eq]; omega))
  rw [h1, h2, h3, h4]
  exact ⟨fun _ => rfl, rfl, rfl, rfl⟩)
theorem cA_23 {n : Nat} {a : Sq} {σ : J} {g : Nat → Int64} (h : cA n σ a) (hw : wfA n a) : cA n (q_sL σ 23 0 g) a := cA_hi h hw (fr.rf.sL ⟨by decide, by decide⟩)
/-- how far a call may go -/
def bnd (a b : Sq) : Prop := b.1 ≤ a.1 + 1000 ∧ b.2.1 ≤ a.2.1 + 1
theorem bnd.rf {a : Sq} : bnd a a := ⟨Nat.le_add_right _ _, Nat.le_add_right _ _⟩
theorem bnd.mk2 {a b : Sq} (h1 : b.1 = a.1) (h2 : b.2.1 = a.2.1) : bnd a b := ⟨by rw [h1]; exact Nat.le_add_right _ _, by rw [h2]; exact Nat.le_add_right _ _⟩
theorem served_1 {a : Sq} : (a_served a).1 = a.1 := by obtain ⟨now, lat, ts, line, dl, dr, pt, la, jo, tk, fn, os⟩ := a; rfl
theorem served_2 {a : Sq} : (a_served a).2.1 = a.2.1 := by obtain ⟨now, lat, ts, line, dl, dr, pt, la, jo, tk, fn, os⟩ := a; rfl
/-- the state between two calls of a run that has t calls to go -/
def Iv (n t : Nat) (σ : J) : Prop := ∃ a, cA n σ a ∧ mA n σ a ∧ wfA n a ∧ a.2.1 + t ≤ 512 ∧ a.1 + 1000 * t ≤ 512000
theorem Iv.dn {n t : Nat} {σ : J} (h : Iv n (t + 1) σ) : Iv n t σ := by
  obtain ⟨a, h1, h2, h3, h4, h5⟩ := h
  exact ⟨a, h1, h2, h3, by omega, by omega⟩
/-- what a helper writes: the answer, as a long -/
def h_out {α : Type} (g : α → Int64) (q : (α ⊕ Nat) × J) : (Int32 ⊕ Nat) × J := match q.1 with
  | .inl r => (.inl 0, q_sL q.2 23 0 (vp_updL (q.2.2.2.1 23 0) 0 (g r)))
  | .inr e => (.inr e, q.2)
def h_r (q : (Int32 ⊕ Nat) × J) : Res := ((match q.1 with | .inl r => .inl (some (.inl r)) | .inr e => .inr e), q.2)
theorem go_fin {α : Type} {n t hk mk dd de : Nat} {vs : List PV} {cd : Nat → Nat} {g : α → Int64} {wv : α → PV} {q : (α ⊕ Nat) × J} {o : (α ⊕ Nat) × Sq} {a : Sq} {σ : J} (hq : q.1 = o.1) (hc : cA n q.2 o.2) (hw : wfA n o.2) (hm : mA n q.2 a)
    (hL : q_ex q_pr n dd hk 0 (q_args 0 (.inr (.inr (some (0, 0))) :: (vs ++ [.inr (.inr (some (23, 0)))]))) [] σ (h_r (h_out g q))) (hd : dd ≤ 21)
    (hM : ∀ σ1, mA n σ1 a → ∃ w : α × J, q_ex q_pr n de mk 0 (q_args 0 (.inr (.inr (some (24, 0))) :: vs)) [] σ1 (.inl (some (wv w.1)), w.2) ∧ mR cd o.1 w ∧ mA n w.2 o.2) (he : de ≤ 20)
    (hk1 : q_kst q_KM (.inr (.inr (some (24, 0))) :: vs)) (herr : ∀ e, o.1 = .inr e → 1 ≤ e ∧ e ≤ 4 ∧ 1 ≤ cd e ∧ cd e ≤ 4 ∧ q_hB hk e (cd e : Int) = true) (hb : bnd a o.2) (hlt : a.2.1 + (t + 1) ≤ 512) (hnw : a.1 + 1000 * (t + 1) ≤ 512000) :
    ∃ (r : Option PV ⊕ Nat) (σ1 : J) (kc : Int32) (w : α) (σ2 : J), q_ex q_pr n 21 hk 0 (q_args 0 (.inr (.inr (some (0, 0))) :: (vs ++ [.inr (.inr (some (23, 0)))]))) [] σ (r, σ1) ∧ q_hok hk r kc ∧ q_ex q_pr n 20 mk 0 (q_args 0 (.inr (.inr (some (24, 0))) :: vs)) [] σ1 (.inl (some (wv w)), σ2) ∧ Iv n t σ2 ∧ σ2.1 24 0 0 = kc ∧ (kc = 0 → σ2.2.2.1 23 0 0 = g w) := by
  obtain ⟨y, σ'⟩ := q
  replace hq : y = o.1 := hq
  obtain ⟨ho, a2⟩ := o
  replace hq : y = ho := hq
  subst hq
  have hb1 : a2.1 ≤ a.1 + 1000 := hb.1
  have hb2 : a2.2.1 ≤ a.2.1 + 1 := hb.2
  cases y with
  | inl v =>
    obtain ⟨w, m1, m2, m3⟩ := hM (q_sL σ' 23 0 (vp_updL (σ'.2.2.1 23 0) 0 (g v))) (mA_23 hm)
    have hsm := q_ex_M m1 hk1
    refine ⟨.inl (some (.inl 0)), _, 0, w.1, w.2, q_ex_dd hL hd, Or.inl ⟨rfl, rfl⟩, q_ex_dd m1 he, ⟨a2, cA_sm (cA_23 hc hw) hw hsm, m3, hw, by omega, by omega⟩, m2.2, fun _ => ?_⟩
    rw [← (hsm 23 rfl).2.2.1]
    exact (show vp_updL (σ'.2.2.1 23 0) 0 (g v) 0 = g v from vL_at).trans (congrArg g m2.1.symm)
  | inr e =>
    obtain ⟨w, m1, m2, m3⟩ := hM σ' hm
    obtain ⟨x1, x2, x3, x4, x5⟩ := herr e rfl
    have hsm := q_ex_M m1 hk1
    have hi : i (cd e) = Int32.ofInt (cd e : Int) := by
      have : cd e = 1 ∨ cd e = 2 ∨ cd e = 3 ∨ cd e = 4 := by omega
      rcases this with z | z | z | z <;> rw [z] <;> rfl
    refine ⟨.inr e, σ', i (cd e), w.1, w.2, q_ex_dd hL hd, Or.inr ⟨e, rfl, x1, x2, (cd e : Int), x5, hi⟩, q_ex_dd m1 he, ⟨a2, cA_sm hc hw hsm, m3, hw, by omega, by omega⟩, m2, fun z => absurd z (i_ne0 (by omega))⟩
