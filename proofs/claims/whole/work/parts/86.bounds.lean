/-! How far each call goes, and what it throws. Ours. -/
def eok {α : Type} (S : List Nat) (o : α ⊕ Nat) : Prop := ∀ e, o = .inr e → e ∈ S
theorem eok.l {α : Type} {S : List Nat} {v : α} : eok S (Sum.inl v : α ⊕ Nat) := (fun _ h => nomatch h)
theorem eok.r {α : Type} {S : List Nat} {e : Nat} (h : e ∈ S) : eok S (Sum.inr e : α ⊕ Nat) := fun e1 q => by cases q; exact h
theorem eok.f {α : Type} {n e : Nat} {S : List Nat} {line : List Nat} {x : Int32} (hfi : a_first n line x = .inr e) (h1 : 1 ∈ S) (h2 : 2 ∈ S) : eok S (Sum.inr e : α ⊕ Nat) := eok.r (by rcases first_e hfi with q | q <;> rw [q] <;> assumption)
theorem ifs_1 {c : Prop} {d : Decidable c} {a : Sq} : ((@ite _ c d a_served id) a).1 = a.1 := by split; exact served_1; rfl
theorem ifs_2 {c : Prop} {d : Decidable c} {a : Sq} : ((@ite _ c d a_served id) a).2.1 = a.2.1 := by split; exact served_2; rfl
theorem put_1 {s : Nat} {e : Int32} {a : Sq} : (a_put s e a).1 = a.1 := by obtain ⟨now, lat, ts, line, dl, dr, pt, la, jo, tk, fn, os⟩ := a; dsimp only [a_put]; split; exact served_1; rfl
theorem put_2 {s : Nat} {e : Int32} {a : Sq} : (a_put s e a).2.1 = a.2.1 + 1 := by obtain ⟨now, lat, ts, line, dl, dr, pt, la, jo, tk, fn, os⟩ := a; dsimp only [a_put]; split; exact served_2; rfl
theorem bnd.pt {s : Nat} {e : Int32} {a b : Sq} (h1 : b.1 = a.1) (h2 : b.2.1 = a.2.1) : bnd a (a_put s e b) := ⟨by rw [put_1, h1]; exact Nat.le_add_right _ _, by rw [put_2, h2]; exact Nat.le_refl _⟩
theorem be_field {n : Nat} {x k : Int32} {v : Int64} {a : Sq} : bnd a (o_field n x k v a).2 ∧ eok [1, 2, 3, 4] (o_field n x k v a).1 := by
  obtain ⟨now, lat, ts, line, dl, dr, pt, la, jo, tk, fn, os⟩ := a
  dsimp only [o_field]
  cases hfi : a_first n line x with
  | inr e => exact ⟨bnd.rf, eok.f hfi (by decide) (by decide)⟩
  | inl s =>
    dsimp only
    split
    · split
      · exact ⟨bnd.mk2 rfl rfl, eok.l⟩
      · exact ⟨bnd.rf, eok.r (by decide)⟩
    · exact ⟨bnd.rf, eok.r (by decide)⟩
theorem be_form {n : Nat} {x p c : Int32} {va vb : Int64} {a : Sq} : bnd a (o_form n x p c va vb a).2 ∧ eok [1, 2, 3, 4] (o_form n x p c va vb a).1 := by
  obtain ⟨now, lat, ts, line, dl, dr, pt, la, jo, tk, fn, os⟩ := a
  dsimp only [o_form]
  cases hfi : a_first n line x with
  | inr e => exact ⟨bnd.rf, eok.f hfi (by decide) (by decide)⟩
  | inl s =>
    dsimp only
    split
    · split
      · exact ⟨bnd.mk2 rfl rfl, eok.l⟩
      · exact ⟨bnd.rf, eok.r (by decide)⟩
    · exact ⟨bnd.rf, eok.r (by decide)⟩
theorem be_forget {n : Nat} {x w : Int32} {a : Sq} : bnd a (o_forget n x w a).2 ∧ eok [1, 2, 3] (o_forget n x w a).1 := by
  obtain ⟨now, lat, ts, line, dl, dr, pt, la, jo, tk, fn, os⟩ := a
  dsimp only [o_forget]
  cases hfi : a_first n line x with
  | inr e => exact ⟨bnd.rf, eok.f hfi (by decide) (by decide)⟩
  | inl s =>
    dsimp only
    split
    · exact ⟨bnd.mk2 rfl rfl, eok.l⟩
    · split
      · exact ⟨bnd.mk2 rfl rfl, eok.l⟩
      · exact ⟨bnd.rf, eok.r (by decide)⟩
theorem be_put {n : Nat} {x y : Int32} {a : Sq} : bnd a (o_put n x y a).2 ∧ eok [1, 2, 3, 4] (o_put n x y a).1 := by
  obtain ⟨now, lat, ts, line, dl, dr, pt, la, jo, tk, fn, os⟩ := a
  dsimp only [o_put]
  cases hfi : a_first n line x with
  | inr e => exact ⟨bnd.rf, eok.f hfi (by decide) (by decide)⟩
  | inl s =>
    dsimp only
    split
    · split
      · exact ⟨bnd.pt rfl rfl, eok.l⟩
      · exact ⟨bnd.rf, eok.r (by decide)⟩
    · exact ⟨bnd.rf, eok.r (by decide)⟩
theorem be_find {n : Nat} {x j h : Int32} {a : Sq} : bnd a (o_find n x j h a).2 ∧ eok [1, 2, 3] (o_find n x j h a).1 := by
  obtain ⟨now, lat, ts, line, dl, dr, pt, la, jo, tk, fn, os⟩ := a
  dsimp only [o_find]
  cases hfi : a_first n line x with
  | inr e => exact ⟨bnd.rf, eok.f hfi (by decide) (by decide)⟩
  | inl s =>
    dsimp only
    split
    · cases a_search s ts (pt s) j.toNatClampNeg with
      | some r => exact ⟨bnd.mk2 rfl rfl, eok.l⟩
      | none =>
        dsimp only
        split
        · exact ⟨bnd.mk2 rfl rfl, eok.l⟩
        · exact ⟨bnd.mk2 rfl rfl, eok.l⟩
    · exact ⟨bnd.rf, eok.r (by decide)⟩
theorem be_stop {n : Nat} {x : Int32} {a : Sq} : bnd a (o_stop n x a).2 ∧ eok [1] (o_stop n x a).1 := by
  obtain ⟨now, lat, ts, line, dl, dr, pt, la, jo, tk, fn, os⟩ := a
  dsimp only [o_stop]
  split
  · split
    · exact ⟨bnd.mk2 rfl rfl, eok.l⟩
    · exact ⟨bnd.mk2 rfl rfl, eok.l⟩
  · exact ⟨bnd.rf, eok.r (by decide)⟩
theorem be_swap {n : Nat} {x : Int32} {a : Sq} : bnd a (o_swap n x a).2 ∧ eok [1, 2, 3, 4] (o_swap n x a).1 := by
  obtain ⟨now, lat, ts, line, dl, dr, pt, la, jo, tk, fn, os⟩ := a
  dsimp only [o_swap]
  cases hfi : a_first n line x with
  | inr e => exact ⟨bnd.rf, eok.f hfi (by decide) (by decide)⟩
  | inl s =>
    dsimp only
    split
    · cases a_search s ts (pt s) 1 with
      | some r =>
        dsimp only
        split
        · exact ⟨bnd.rf, eok.r (by decide)⟩
        · exact ⟨bnd.pt rfl rfl, eok.l⟩
      | none => exact ⟨bnd.mk2 rfl rfl, eok.l⟩
    · exact ⟨bnd.rf, eok.r (by decide)⟩
theorem be_fold {n : Nat} {x fi w : Int32} {a : Sq} : bnd a (o_fold n x fi w a).2 ∧ eok [1, 2, 3] (o_fold n x fi w a).1 := by
  obtain ⟨now, lat, ts, line, dl, dr, pt, la, jo, tk, fn, os⟩ := a
  dsimp only [o_fold]
  cases hfi : a_first n line x with
  | inr e => exact ⟨bnd.rf, eok.f hfi (by decide) (by decide)⟩
  | inl s =>
    dsimp only
    split
    · exact ⟨bnd.rf, eok.l⟩
    · exact ⟨bnd.rf, eok.r (by decide)⟩
theorem be_order {n : Nat} {x : Int32} {a : Sq} : bnd a (o_order n x a).2 ∧ eok [1, 2, 3, 4] (o_order n x a).1 := by
  obtain ⟨now, lat, ts, line, dl, dr, pt, la, jo, tk, fn, os⟩ := a
  dsimp only [o_order]
  cases hfi : a_first n line x with
  | inr e => exact ⟨bnd.rf, eok.f hfi (by decide) (by decide)⟩
  | inl s =>
    dsimp only
    split
    · split
      · exact ⟨bnd.mk2 rfl rfl, eok.l⟩
      · exact ⟨bnd.rf, eok.r (by decide)⟩
    · exact ⟨bnd.rf, eok.r (by decide)⟩
theorem be_collect {x : Int32} {a : Sq} : bnd a (o_collect x a).2 ∧ eok [1] (o_collect x a).1 := by
  obtain ⟨now, lat, ts, line, dl, dr, pt, la, jo, tk, fn, os⟩ := a
  dsimp only [o_collect]
  split
  · cases os[x.toNatClampNeg]? with
    | some o => exact ⟨bnd.mk2 rfl rfl, eok.l⟩
    | none => exact ⟨bnd.rf, eok.r (by decide)⟩
  · exact ⟨bnd.rf, eok.r (by decide)⟩
theorem be_open {n : Nat} {x : Int32} {a : Sq} : bnd a (o_open n x a).2 ∧ eok [1, 2, 4] (o_open n x a).1 := by
  obtain ⟨now, lat, ts, line, dl, dr, pt, la, jo, tk, fn, os⟩ := a
  dsimp only [o_open]
  cases hfi : a_first n line x with
  | inr e => exact ⟨bnd.rf, eok.f hfi (by decide) (by decide)⟩
  | inl s =>
    dsimp only
    split
    · exact ⟨bnd.mk2 rfl rfl, eok.l⟩
    · exact ⟨bnd.rf, eok.r (by decide)⟩
theorem be_commit {n : Nat} {x : Int32} {a : Sq} : bnd a (o_commit n x a).2 ∧ eok [1, 2] (o_commit n x a).1 := by
  obtain ⟨now, lat, ts, line, dl, dr, pt, la, jo, tk, fn, os⟩ := a
  dsimp only [o_commit]
  cases hfi : a_first n line x with
  | inr e => exact ⟨bnd.rf, eok.f hfi (by decide) (by decide)⟩
  | inl s =>
    dsimp only
    by_cases h0 : dl s = 0
    · rw [if_pos h0]; exact ⟨bnd.rf, eok.l⟩
    · rw [if_neg h0]
      dsimp only
      by_cases h1 : dl s = 1
      · rw [if_pos h1]; exact ⟨bnd.mk2 ifs_1 ifs_2, eok.l⟩
      · rw [if_neg h1]; exact ⟨bnd.mk2 rfl rfl, eok.l⟩
theorem be_abandon {n : Nat} {x : Int32} {a : Sq} : bnd a (o_abandon n x a).2 ∧ eok [1, 2] (o_abandon n x a).1 := by
  obtain ⟨now, lat, ts, line, dl, dr, pt, la, jo, tk, fn, os⟩ := a
  dsimp only [o_abandon]
  cases hfi : a_first n line x with
  | inr e => exact ⟨bnd.rf, eok.f hfi (by decide) (by decide)⟩
  | inl s =>
    dsimp only
    by_cases h0 : dl s = 0
    · rw [if_pos h0]; exact ⟨bnd.rf, eok.l⟩
    · rw [if_neg h0]; exact ⟨bnd.mk2 ifs_1 ifs_2, eok.l⟩
theorem be_renew {n : Nat} {x m y : Int32} {a : Sq} : bnd a (o_renew n x m y a).2 ∧ eok [1, 2, 3] (o_renew n x m y a).1 := by
  obtain ⟨now, lat, ts, line, dl, dr, pt, la, jo, tk, fn, os⟩ := a
  dsimp only [o_renew]
  cases hfi : a_first n line x with
  | inr e => exact ⟨bnd.rf, eok.f hfi (by decide) (by decide)⟩
  | inl s =>
    dsimp only
    split
    · cases ts.find? (fun t => decide (t_num t = m)) with
      | some t =>
        dsimp only
        split
        · exact ⟨bnd.mk2 rfl rfl, eok.l⟩
        · exact ⟨bnd.rf, eok.l⟩
      | none => exact ⟨bnd.rf, eok.l⟩
    · exact ⟨bnd.rf, eok.r (by decide)⟩
theorem be_session {n : Nat} {x w : Int32} {a : Sq} : eok [1] (o_session n x w a) := by
  obtain ⟨now, lat, ts, line, dl, dr, pt, la, jo, tk, fn, os⟩ := a
  dsimp only [o_session]
  by_cases h : a_sess n x = true
  · rw [if_pos h]; exact eok.l
  · rw [if_neg h]; exact eok.r (by decide)
theorem be_found {n : Nat} {x w : Int32} {a : Sq} : eok [1] (o_found n x w a) := by
  obtain ⟨now, lat, ts, line, dl, dr, pt, la, jo, tk, fn, os⟩ := a
  dsimp only [o_found]
  by_cases h : a_sess n x = true
  · rw [if_pos h]; exact eok.l
  · rw [if_neg h]; exact eok.r (by decide)
theorem be_seen {n : Nat} {x k : Int32} {a : Sq} : eok [1] (o_seen n x k a) := by
  obtain ⟨now, lat, ts, line, dl, dr, pt, la, jo, tk, fn, os⟩ := a
  dsimp only [o_seen]
  by_cases h : a_sess n x = true
  · rw [if_pos h]; exact eok.l
  · rw [if_neg h]; exact eok.r (by decide)
theorem be_tick {x : Int32} {a : Sq} : bnd a (o_tick x a).2 ∧ eok [3] (o_tick x a).1 := by
  obtain ⟨now, lat, ts, line, dl, dr, pt, la, jo, tk, fn, os⟩ := a
  dsimp only [o_tick]
  by_cases h : (decide (0 ≤ x) && decide (x ≤ 1000)) = true
  · rw [if_pos h]
    obtain ⟨k, hk, e⟩ := span_i h
    refine ⟨⟨?_, ?_⟩, eok.l⟩
    · show (a_ticked _ _).1 ≤ now + 1000
      unfold a_ticked
      rw [ifs_1, e, i_n (by omega)]
      show now + k ≤ now + 1000
      omega
    · show (a_ticked _ _).2.1 ≤ lat + 1
      unfold a_ticked
      rw [ifs_2]
      exact Nat.le_add_right _ _
  · rw [if_neg h]
    exact ⟨bnd.rf, eok.r (by decide)⟩
