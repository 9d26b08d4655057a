/-! The class reports, settles, abandons. Ours. -/
theorem cOs.fr {Z : Nat → Nat → Prop} {σ τ : J} {os : List Od} (h : cOs σ os) (hl : os.length ≤ 6) (hf : fr Z σ τ) (h0 : ¬ Z 0 0) (h1 : ∀ a z, z < 6 → 8 ≤ a → a ≤ 11 → ¬ Z a z) (h2 : ∀ z, z < 6 → ¬ Z 18 z ∧ ¬ Z 19 z) : cOs τ os := by
  refine ⟨by rw [(hf 0 0 h0).1]; exact h.1, fun j o ho => ?_, fun j hj1 hj2 => ?_⟩
  · have hj := (List.getElem?_eq_some_iff.mp ho).1
    exact (h.2.1 j o ho).fr hf (fun a q1 q2 => h1 a j (by omega) q1 q2) (h2 j (by omega)).1 (h2 j (by omega)).2
  · rw [(hf 18 j (h2 j hj2).1).1, (hf 18 j (h2 j hj2).1).1]; exact h.2.2 j hj1 hj2
/-- what reporting may change -/
def Zp : Nat → Nat → Prop := fun a b => (12 ≤ a ∧ a ≤ 15 ∧ b = 0) ∨ (18 ≤ a ∧ a ≤ 19 ∧ b < 6)
theorem okOs_add {os : List Od} {t : Tp} (h : ∀ o ∈ os, okGs o.1 ∧ o.2.1.length ≤ 5) : ∀ o ∈ a_report t os, okGs o.1 ∧ o.2.1.length ≤ 5 := by
  intro o ho
  unfold a_report at ho
  obtain ⟨q, hq, rfl⟩ := List.mem_map.mp ho
  have hk := h q hq
  split
  · obtain ⟨g, rs, ov⟩ := q
    cases ov with
    | true => exact hk
    | false =>
      have h5 : rs.length ≤ 5 := hk.2
      by_cases hl : rs.length < 5
      · rw [a_add1_lt hl]
        refine ⟨hk.1, ?_⟩
        show (rs ++ [t_num t]).length ≤ 5
        rw [List.length_append]
        show rs.length + 1 ≤ 5
        omega
      · rw [a_add1_ge (by omega)]
        exact hk
  · exact hk
theorem a_report_len {os : List Od} {t : Tp} : (a_report t os).length = os.length := List.length_map _
theorem JB_report_L {n z : Nat} {t : Tp} (hfl : (t_fs t).length ≤ 4) :
    ∀ (rest done : List Od) (f : Nat) (σ : J), (∀ o ∈ rest, okGs o.1 ∧ o.2.1.length ≤ 5) → (done ++ rest).length ≤ 6 → cOs σ (done ++ rest) → cT σ z t → (∀ o, o < 6 → σ.2.2.2 20 0 o = o) → rest.length + 20 ≤ f → wp (JB_report_L2 n f z (i done.length) σ) (fun τ => fr Zp σ τ ∧ cOs τ (done ++ a_report t rest)) := by
  intro rest
  induction rest with
  | nil =>
    intro done f σ hok hl hO hT hst hf
    obtain ⟨f, rfl⟩ : ∃ g, f = g + 1 := ⟨f - 1, by omega⟩
    have h0 := hO.1
    rw [List.append_nil] at h0 hl
    unfold JB_report_L2 JB_report_b2
    rw [h0, if_pos (by rw [i_le (by omega) (by omega)]; omega), wp_some]
    exact ⟨fr.rf, hO⟩
  | cons o rest ih =>
    intro done f σ hok hl hO hT hst hf
    obtain ⟨f, rfl⟩ : ∃ g, f = g + 1 := ⟨f - 1, by omega⟩
    have hfr : rest.length + 20 ≤ f := by simp at hf; omega
    have h0 := hO.1
    have hl' := hl
    rw [List.length_append, List.length_cons] at hl'
    rw [List.length_append, List.length_cons] at h0
    have ho : cO σ done.length o := hO.2.1 done.length o (by rw [List.getElem?_append_right (Nat.le_refl _), Nat.sub_self]; rfl)
    have hoo := hok o List.mem_cons_self
    have hin : q_in (i done.length) 6 = true := by rw [i_in (by omega)]; omega
    have hb : Nat.blt done.length 6 = true := by rw [blt_eq]; omega
    unfold JB_report_L2 JB_report_b2 JB_report_b40
    rw [h0, if_neg (by rw [i_le (by omega) (by omega)]; omega), if_pos hin, i_n (by omega), hst done.length (by omega), if_pos hb]
    have go : ∀ (τ : J) (o1 : Od), fr Zp σ τ → cOs τ (done ++ o1 :: rest) → wp (JB_report_L2 n f z (i done.length + 1) τ) (fun υ => fr Zp σ υ ∧ cOs υ (done ++ o1 :: a_report t rest)) := by
      intro τ o1 hf1 hO1
      have e : done ++ o1 :: rest = (done ++ [o1]) ++ rest := by simp
      have e2 : (done ++ [o1]).length = done.length + 1 := by rw [List.length_append]; rfl
      rw [e] at hO1
      have := ih (done ++ [o1]) f τ (fun q hq => hok q (List.mem_cons_of_mem _ hq)) (by rw [List.length_append, e2]; omega) hO1 (hT.fr hf1 (by unfold Zp; omega) (by unfold Zp; omega) (by unfold Zp; omega) (by unfold Zp; omega)) (fun q hq => by rw [(hf1 20 0 (by unfold Zp; omega)).2.2.2]; exact hst q hq) hfr
      rw [e2] at this
      rw [l1, i_add]
      refine wp_mono this (fun υ hυ => ⟨hf1.tr hυ.1, ?_⟩)
      have h9 := hυ.2
      rw [List.append_assoc] at h9
      exact h9
    refine wp_bind (JB_fitsAlone_s (n := n) hoo.1 hfl (by omega) ho.1 hT.2.2.2.2.2.2.2) (fun q hq => ?_)
    obtain ⟨q1, q2⟩ := q
    obtain ⟨d1, d2⟩ := hq
    replace d1 : q1 = _ := d1
    subst d1
    dsimp only at d2 ⊢
    have d2' : fr Zp σ q2 := d2.up (fun a b q => Or.inl q)
    have hO2 : cOs q2 (done ++ o :: rest) := hO.fr hl d2 (by omega) (fun a z _ _ _ => by omega) (fun z _ => by omega)
    show wp _ (fun τ => fr Zp σ τ ∧ cOs τ (done ++ (if (a_fits o.1 (t_fs t) [] bd0).isSome = true then a_add1 (t_num t) o else o) :: a_report t rest))
    cases hs : (a_fits o.1 (t_fs t) [] bd0).isSome with
    | false =>
      rw [if_pos (show b01 false = 0 from rfl)]
      exact go q2 o d2' hO2
    | true =>
      rw [if_neg (by decide), if_pos hin, (d2' 20 0 (by unfold Zp; omega)).2.2.2, hst done.length (by omega), if_pos hb]
      have hT2 : q2.1 4 1 z = t_num t := by rw [(d2 4 z (by omega)).1]; exact hT.2.1
      rw [hT2]
      refine wp_bind (Order_addReport_s (n := n) (N := t_num t) (hO2.2.1 done.length o (by rw [List.getElem?_append_right (Nat.le_refl _), Nat.sub_self]; rfl)) hoo.2) (fun τ hτ => ?_)
      have hf3 : fr Zp q2 τ := hτ.2.up (fun a b q => Or.inr ⟨q.1, q.2.1, by omega⟩)
      rw [if_pos rfl]
      refine go τ (a_add1 (t_num t) o) (d2'.tr hf3) ⟨?_, fun j x hx => ?_, fun j hj1 hj2 => ?_⟩
      · rw [(hτ.2 0 0 (by omega)).1, hO2.1]
        simp
      · by_cases e : j = done.length
        · subst e
          rw [List.getElem?_append_right (Nat.le_refl _), Nat.sub_self] at hx
          cases hx
          exact hτ.1
        · have hx2 : (done ++ o :: rest)[j]? = some x := by
            by_cases e2 : j < done.length
            · rw [List.getElem?_append_left e2] at hx ⊢; exact hx
            · rw [List.getElem?_append_right (by omega)] at hx ⊢
              obtain ⟨k, hk⟩ : ∃ k, j - done.length = k + 1 := ⟨j - done.length - 1, by omega⟩
              rw [hk] at hx ⊢
              exact hx
          exact (hO2.2.1 j x hx2).fr hτ.2 (fun a _ _ => by omega) (by omega) (by omega)
      · have hj3 : (done ++ o :: rest).length ≤ j := by simpa using hj1
        have hj4 : j ≠ done.length := by rw [List.length_append, List.length_cons] at hj3; omega
        rw [(hτ.2 18 j (by omega)).1, (hτ.2 18 j (by omega)).1]
        exact hO2.2.2 j hj3 hj2
theorem JB_report_s {n f z : Nat} {t : Tp} {os : List Od} {σ : J} (hfl : (t_fs t).length ≤ 4) (hok : ∀ o ∈ os, okGs o.1 ∧ o.2.1.length ≤ 5) (hl : os.length ≤ 6) (hO : cOs σ os) (hT : cT σ z t) (hst : ∀ o, o < 6 → σ.2.2.2 20 0 o = o) (hf : 40 ≤ f) : wp (JB_report n f z σ) (fun τ => fr Zp σ τ ∧ cOs τ (a_report t os)) := by
  unfold JB_report JB_report_b0
  exact JB_report_L hfl os [] f σ hok hl hO hT hst (by omega)
