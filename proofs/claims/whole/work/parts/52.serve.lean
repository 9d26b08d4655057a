/-! The class's state as a whole; granting, serving the line. Ours. -/
/-- now, last number, tuples, line, deals, drafts, patterns, how a wait ended, joined, takes, findings, orders -/
abbrev Sq : Type := Nat × Nat × List Tp × List Nat × (Nat → Nat) × (Nat → List FV) × (Nat → Nat → List Fm) × (Nat → Int32) × (Nat → Nat) × (Nat → Bool) × (Nat → Fq) × List Od
def cDl (n : Nat) (σ : J) (dl : Nat → Nat) : Prop := ∀ s, s < n → σ.1 16 4 s = i (dl s)
def cSs (n : Nat) (σ : J) (line : List Nat) (la : Nat → Int32) : Prop := ∀ s, s < n → σ.1 16 5 s = if s ∈ line then i 1 else la s
def cJo (σ : J) (line : List Nat) (jo : Nat → Nat) (tk : Nat → Bool) : Prop := ∀ s ∈ line, σ.1 16 6 s = i (jo s) ∧ σ.1 16 7 s = b01 (tk s)
def cFn (n : Nat) (σ : J) (fn : Nat → Fq) : Prop := ∀ s, s < n → cN σ (s + 1) (fn s)
def cDs (n : Nat) (σ : J) (dr : Nat → List FV) : Prop := ∀ s, s < n → cF σ (20 + s) (dr s)
def cOs (σ : J) (os : List Od) : Prop := σ.1 0 4 0 = i os.length ∧ (∀ j o, os[j]? = some o → cO σ j o) ∧ ∀ j, os.length ≤ j → j < 6 → σ.1 18 2 j = i 0 ∧ σ.1 18 3 j = i 0
def cA (n : Nat) (σ : J) : Sq → Prop
  | (now, lat, ts, line, dl, dr, pt, la, jo, tk, fn, os) => cSt n σ ∧ σ.1 0 5 0 = i now ∧ σ.1 2 2 0 = i lat ∧ cB σ ts ∧ cL σ line ∧ cDl n σ dl ∧ cDs n σ dr ∧ cPs n σ pt ∧ cSs n σ line la ∧ cJo σ line jo tk ∧ cFn n σ fn ∧ cOs σ os
def wfA (n : Nat) : Sq → Prop
  | (now, lat, ts, line, dl, dr, pt, la, jo, _, _, os) => okTs n now lat dl ts ∧ line.Nodup ∧ (∀ s ∈ line, s < n) ∧ (∀ s, s < n → dl s ≤ 4) ∧ (∀ s, s < n → okFs (dr s)) ∧ (∀ s p, s < n → p < 3 → okGs (pt s p)) ∧ (∀ s, s < n → la s = i 0 ∨ la s = i 2 ∨ la s = i 3) ∧ (∀ s ∈ line, 1 ≤ jo s ∧ jo s ≤ 3) ∧ (∀ o ∈ os, okGs o.1 ∧ o.2.1.length ≤ 5) ∧ os.length ≤ 6 ∧ lat ≤ 1000 ∧ now ≤ 1000000 ∧ n ≤ 4
theorem okT.s {n now lat : Nat} {dl : Nat → Nat} {t : Tp} (h : okT n now lat dl t) (hl : lat ≤ 1000) : (t_fs t).length ≤ 4 ∧ ∃ k, 1 ≤ k ∧ k < 2147483648 ∧ t_num t = i k := by
  obtain ⟨⟨k, h1, h2, h3⟩, -, -, -, h4⟩ := h
  exact ⟨h4.1, k, h1, by omega, h3⟩
theorem okTs.s {n now lat : Nat} {dl : Nat → Nat} {ts : List Tp} (h : okTs n now lat dl ts) (hl : lat ≤ 1000) : okS ts := fun t ht => (h.2 t ht).s hl
/-- everything but the trial -/
theorem cA.fr {n : Nat} {σ τ : J} {a : Sq} {Z : Nat → Nat → Prop} (h : cA n σ a) (hf : fr Z σ τ) (hZ : ∀ k z, Z k z → 12 ≤ k ∧ k ≤ 15 ∧ z = 0) : cA n τ a := by
  obtain ⟨now, lat, ts, line, dl, dr, pt, la, jo, tk, fn, os⟩ := a
  obtain ⟨h1, h2, h3, h4, h5, h6, h7, h8, h9, h10, h11, h12⟩ := h
  have hz : ∀ k z, (k < 12 ∨ 15 < k ∨ z ≠ 0) → ¬ Z k z := fun k z h q => by
    have := hZ k z q
    omega
  refine ⟨h1.fr hf (hz _ _ (by omega)) (fun s _ => Or.inl (hz _ _ (by omega))) (fun s _ => hz _ _ (by omega)) (hz _ _ (by omega)), ?_, ?_, h4.fr hf (hz _ _ (by omega)) (hz _ _ (by omega)) (fun z _ => ⟨hz _ _ (by omega), hz _ _ (by omega), hz _ _ (by omega), hz _ _ (by omega)⟩), h5.fr hf (hz _ _ (by omega)) (hz _ _ (by omega)), ?_, ?_, h8.fr hf (fun a z _ _ _ => hz _ _ (by omega)), ?_, ?_, ?_, ?_, ?_, ?_⟩
  · rw [(hf 0 0 (hz _ _ (by omega))).1]; exact h2
  · rw [(hf 2 0 (hz _ _ (by omega))).1]; exact h3
  · intro s hs; rw [(hf 16 s (hz _ _ (by omega))).1]; exact h6 s hs
  · exact fun s hs => (h7 s hs).fr hf (hz _ _ (by omega)) (hz _ _ (by omega)) (hz _ _ (by omega))
  · intro s hs; rw [(hf 16 s (hz _ _ (by omega))).1]; exact h9 s hs
  · intro s hs; rw [(hf 16 s (hz _ _ (by omega))).1, (hf 16 s (hz _ _ (by omega))).1]; exact h10 s hs
  · exact fun s hs => (h11 s hs).fr hf (hz _ _ (by omega)) (hz _ _ (by omega)) (hz _ _ (by omega)) (hz _ _ (by omega))
  · rw [(hf 0 0 (hz _ _ (by omega))).1]; exact h12.1
  · exact fun j o ho => (h12.2.1 j o ho).fr hf (fun a _ _ => hz _ _ (by omega)) (hz _ _ (by omega)) (hz _ _ (by omega))
  · intro j hj1 hj2; rw [(hf 18 j (hz _ _ (by omega))).1, (hf 18 j (hz _ _ (by omega))).1]; exact h12.2.2 j hj1 hj2
theorem a_take_num {s d : Nat} {ts : List Tp} {m : Int32} (h : (ts.map t_num).Nodup) : ((a_take s d ts m).map t_num).Nodup := by
  unfold a_take
  split
  · exact List.Nodup.sublist (List.Sublist.map _ List.filter_sublist) h
  · rw [List.map_map]
    rw [List.map_congr_left (g := t_num) (fun t _ => by
      show t_num (if t_num t = m then t_setT t (i s) (i d) else t) = t_num t
      split <;> rfl)]
    exact h
theorem a_take_none {s d : Nat} {ts : List Tp} {m : Int32} (h : ∀ t ∈ ts, t_num t ≠ m) : a_take s d ts m = ts := by
  unfold a_take
  split
  · exact filter_none h
  · exact map_none h
theorem JB_grant_L {n s d joined : Nat} {r : Fq} (hs : s < n) (hj : joined ≤ 3) (hr : r.1.length = joined) (hd : d ≤ 4) :
    ∀ (rest : List Int32) (p f : Nat) (ts : List Tp) (σ : J), r.1.drop p = rest → p ≤ joined → rest.length + 31 ≤ f → cB σ ts → (ts.map t_num).Nodup → cN σ 0 r → σ.1 16 6 s = i joined → σ.1 16 0 s = i s → σ.1 16 4 s = i d → wp (JB_grant_L21 n f s (i p) σ) (fun τ => fr Z4 σ τ ∧ cB τ (rest.foldl (a_take s d) ts) ∧ kO σ τ) := by
  intro rest
  induction rest with
  | nil =>
    intro p f ts σ hdr hp hf hB hnd hN h6 h0 h4
    obtain ⟨f, rfl⟩ : ∃ g, f = g + 1 := ⟨f - 1, by omega⟩
    have := List.drop_eq_nil_iff.mp hdr
    unfold JB_grant_L21 JB_grant_b21
    rw [h6, if_pos (by rw [i_le (by omega) (by omega)]; omega), wp_some]
    exact ⟨fr.rf, hB, kO.rf⟩
  | cons m rest ih =>
    intro p f ts σ hdr hp hf hB hnd hN h6 h0 h4
    obtain ⟨f, rfl⟩ : ∃ g, f = g + 1 := ⟨f - 1, by omega⟩
    obtain ⟨d1, d2⟩ := drop_cons hdr
    have hpl := (List.getElem?_eq_some_iff.mp d1).1
    have hfl : rest.length + 31 ≤ f := by simp at hf; omega
    unfold JB_grant_L21 JB_grant_b21 JB_grant_b61
    rw [h6, if_neg (by rw [i_le (by omega) (by omega)]; omega), Finding_numberFor_s hN (show p < 3 by omega), some_bind]
    have hm : r.1.getD p im = m := by rw [List.getD_eq_getElem?_getD, d1]; rfl
    dsimp only
    rw [hm]
    rcases Board_lookUp_s (n := n) (f := f) (N := m) hB (by omega) with ⟨e1, e2⟩ | ⟨z, t, pre, post, hz, e1, e2, e3, e4, e5⟩
    · rw [e1, some_bind]
      dsimp only
      rw [l1, i_add]
      rw [List.foldl_cons, a_take_none e2]
      exact ih (p + 1) f ts σ d2 (by omega) hfl hB hnd hN h6 h0 h4
    · rw [e1, some_bind]
      dsimp only
      rw [if_pos (by rw [blt_eq]; exact hz), h0, h4, Tuple_takeFor_q, some_bind, l1, i_add, List.foldl_cons]
      subst e2
      by_cases hd0 : d = 0
      · subst hd0
        rw [if_pos (show i 0 = 0 from rfl)]
        have hf1 : fr (fun a b => a = 4 ∧ b = z) σ (q_sI σ 4 0 z (i 0)) := fr4
        have ha : a_take s 0 (pre ++ t :: post) m = pre ++ post := by
          unfold a_take
          rw [if_pos rfl]
          exact filter_mid hnd e4
        rw [ha]
        have hnd2 := a_take_num (s := s) (d := 0) (m := m) hnd
        rw [ha] at hnd2
        refine wp_mono (ih (p + 1) f (pre ++ post) _ d2 (by omega) hfl ((e5 _ hf1).1 (by rw [sI1, if_pos ⟨rfl, rfl, rfl⟩])) hnd2 (hN.fr hf1 (by omega) (by omega) (by omega) (by omega)) (by rw [sI1, if_neg (by omega)]; exact h6) (by rw [sI1, if_neg (by omega)]; exact h0) (by rw [sI1, if_neg (by omega)]; exact h4)) (fun τ hτ => ⟨(hf1.up (fun a b q => ⟨q.1, by rw [q.2]; exact hz⟩)).tr hτ.1, hτ.2.1, kO.off.tr hτ.2.2⟩)
      · rw [if_neg (by rw [l0, i_eq (by omega) (by omega)]; exact hd0)]
        have hf1 : fr (fun a b => a = 4 ∧ b = z) σ (q_sI (q_sI σ 4 5 z (i s)) 4 6 z (i d)) := fr4' fr4
        have ha : a_take s d (pre ++ t :: post) m = pre ++ t_setT t (i s) (i d) :: post := by
          unfold a_take
          rw [if_neg hd0]
          exact map_mid (g := fun t => t_setT t (i s) (i d)) hnd e4
        rw [ha]
        have hnd2 := a_take_num (s := s) (d := d) (m := m) hnd
        rw [ha] at hnd2
        refine wp_mono (ih (p + 1) f _ _ d2 (by omega) hfl ((e5 _ hf1).2 _ e3.setT) hnd2 (hN.fr hf1 (by omega) (by omega) (by omega) (by omega)) (by rw [sI1, if_neg (by omega), sI1, if_neg (by omega)]; exact h6) (by rw [sI1, if_neg (by omega), sI1, if_neg (by omega)]; exact h0) (by rw [sI1, if_neg (by omega), sI1, if_neg (by omega)]; exact h4)) (fun τ hτ => ⟨(hf1.up (fun a b q => ⟨q.1, by rw [q.2]; exact hz⟩)).tr hτ.1, hτ.2.1, (kO.fld (f := 5) (by omega)).tr ((kO.fld (f := 6) (by omega)).tr hτ.2.2)⟩)
/-- what granting may change -/
def Zg (s : Nat) : Nat → Nat → Prop := fun a b => (a = 4 ∧ b < 20) ∨ (12 ≤ a ∧ a ≤ 15 ∧ b = s + 1)
theorem JB_grant_s {n f s d joined : Nat} {r : Fq} {ts : List Tp} {tk : Bool} {σ : J} (hs : s < n) (hj : joined ≤ 3) (hr : r.1.length = joined) (hd : d ≤ 4) (hf : 40 ≤ f) (hB : cB σ ts) (hnd : (ts.map t_num).Nodup) (hN : cN σ 0 r) (h6 : σ.1 16 6 s = i joined) (h7 : σ.1 16 7 s = b01 tk) (h0 : σ.1 16 0 s = i s) (h4 : σ.1 16 4 s = i d) : wp (JB_grant n f s σ) (fun τ => fr (Zg s) σ τ ∧ cN τ (s + 1) r ∧ cB τ (a_grant s d tk ts r) ∧ kO σ τ) := by
  unfold JB_grant JB_grant_b0
  refine wp_bind (Finding_copyFrom_s (n := n) (z := s + 1) hN (by omega)) (fun τ hτ => ?_)
  have hf1 : fr (Zg s) σ τ := hτ.2.up (fun a b q => Or.inr q)
  have hne : ¬ Zg s 16 s := by unfold Zg; omega
  rw [(hf1 16 s hne).1, h7]
  have hB1 : cB τ ts := hB.fr hτ.2 (by omega) (by omega) (fun z _ => by omega)
  cases tk with
  | false =>
    rw [if_pos (show b01 false = 0 from rfl), wp_some]
    exact ⟨hf1, hτ.1, hB1, kO.fr hτ.2 (fun z => by omega)⟩
  | true =>
    rw [if_neg (by decide)]
    refine wp_mono (JB_grant_L hs hj hr hd r.1 0 f ts τ rfl (by omega) (by omega) hB1 hnd (hN.fr hτ.2 (by omega) (by omega) (by omega) (by omega)) (by rw [(hf1 16 s hne).1]; exact h6) (by rw [(hf1 16 s hne).1]; exact h0) (by rw [(hf1 16 s hne).1]; exact h4)) (fun υ hυ => ⟨hf1.tr (hυ.1.up (fun a b q => Or.inl q)), hτ.1.fr hυ.1 (by unfold Z4; omega) (by unfold Z4; omega) (by unfold Z4; omega) (by unfold Z4; omega), hυ.2.1, (kO.fr hτ.2 (fun z => by omega)).tr hυ.2.2⟩)
theorem JB_endWait_s {n f s : Nat} {v : Int32} {line : List Nat} {σ : J} (hs : s < 4) (hf : 10 ≤ f) (h0 : σ.1 16 0 s = i s) (hL : cL σ line) : wp (JB_endWait n f s v σ) (fun τ => cL τ (line.erase s) ∧ fr (fun a b => (a = 16 ∧ b = s) ∨ (21 ≤ a ∧ a ≤ 22 ∧ b = 0)) σ τ ∧ τ.1 16 5 s = v ∧ ∀ f, f ≠ 5 → τ.1 16 f s = σ.1 16 f s) := by
  unfold JB_endWait JB_endWait_b0
  rw [bs_eq, sI1, if_neg (by omega), h0]
  have hf1 : fr (fun a b => (a = 16 ∧ b = s) ∨ (21 ≤ a ∧ a ≤ 22 ∧ b = 0)) σ (q_sI σ 16 5 s v) := fr.rf.sI (Or.inl ⟨rfl, rfl⟩)
  refine wp_bind (Line_remove_s (n := n) (line := line) ⟨by rw [sI1, if_neg (by omega)]; exact hL.1, hL.2⟩ hs hf) (fun τ hτ => ?_)
  rw [wp_some]
  refine ⟨hτ.1, hf1.tr (hτ.2.up (fun a b q => Or.inr q)), ?_, fun g hg => ?_⟩
  · rw [(hτ.2 16 s (by omega)).1, sI1, if_pos ⟨rfl, rfl, rfl⟩]
  · rw [(hτ.2 16 s (by omega)).1, sI1, if_neg (fun q => hg q.2.1)]
