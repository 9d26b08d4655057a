/-! What the tables and the start say, in the forms that the walk asks for; and the claim. Ours. -/
section FIN
variable {s : State} {args : Array Value}
theorem f_hts {w : Cond} (hts : ∀ w ∈ lw_tbl, w.before args s = true) (h : decide (w ∈ lw_tbl) = true) : w.before args s = true := hts w (of_decide_eq_true h)
/-- the classes and their fields -/
theorem f_cls (hts : ∀ w ∈ lw_tbl, w.before args s = true) : ∀ c : Nat, ∃ (cC : ClassId) (iS : Nat → Nat), ∀ q : vw_C, vcl[c]? = some q → u_Kn s q.1 q.2.1 q.2.2 cC iS := by
  have hall : (vcl.all fun q => ((u_ws q.1 q.2.1 q.2.2).all fun w => decide (w ∈ lw_tbl)) && decide (Cond.instantiable q.1 q.2.2 ∈ lw_tbl)) = true := by decide +kernel
  intro c
  cases h : vcl[c]? with
  | none => exact ⟨default, fun _ => 0, fun q hq => by cases hq⟩
  | some q =>
    have h1 := List.all_eq_true.mp hall q (List.mem_of_getElem? h)
    rw [Bool.and_eq_true] at h1
    obtain ⟨cC, iS, hK⟩ := u_known (C := q.1) (T := q.2.1) (N := q.2.2) (n := q.2.2) hts (fun w hw => of_decide_eq_true (List.all_eq_true.mp h1.1 w hw)) (hts _ (of_decide_eq_true h1.2))
    exact ⟨cC, iS, fun q' hq' => by cases hq'; exact hK⟩
theorem f_prim (hts : ∀ w ∈ lw_tbl, w.before args s = true) {t : FieldType} (h : decide (Cond.arrayClass t ∈ lw_tbl) = true) (ht : ∀ cA, va_RA s cA t = (s.vm.findClass ("[" ++ t.toString) = some cA)) : ∃ cA : ClassId, ArrOfT s cA t ∧ va_RA s cA t := by
  obtain ⟨c, k, comp, h1, h2, h3⟩ := Cond.arrayClass_spec (f_hts hts h)
  exact ⟨c, fun n z => ⟨fun k h => (by cases h), k, h2, comp, h3⟩, by rw [ht]; exact h1⟩
theorem f_obj (hts : ∀ w ∈ lw_tbl, w.before args s = true) {C : String} (h : decide (Cond.arrayOver (.object C) ∈ lw_tbl) = true) : ∃ cA : ClassId, ArrOfT s cA (.object C) ∧ va_RA s cA (.object C) := by
  obtain ⟨comp, c, k, h1, -, h3, h4, h5⟩ := Cond.arrayOver_spec (f_hts hts h)
  exact ⟨c, fun n z => ⟨fun k h => (by cases h), k, h3, comp, h4⟩, k, comp, h3, h4, h1, h5⟩
theorem f_K (hts : ∀ w ∈ lw_tbl, w.before args s = true) : ∃ (D : va_G) (cy : Nat → ClassId), va_K D vcl (q_ty cy) s := by
  have hc := f_cls hts
  obtain ⟨c0, p0⟩ := f_prim (t := .int) hts (by decide +kernel) (fun _ => rfl)
  obtain ⟨c1, p1⟩ := f_prim (t := .long) hts (by decide +kernel) (fun _ => rfl)
  obtain ⟨c2, p2⟩ := f_prim (t := .boolean) hts (by decide +kernel) (fun _ => rfl)
  obtain ⟨c3, p3⟩ := f_obj (C := "JobBoard$Session") hts (by decide +kernel)
  obtain ⟨c4, p4⟩ := f_obj (C := "JobBoard$Tuple") hts (by decide +kernel)
  obtain ⟨c5, p5⟩ := f_obj (C := "JobBoard$Pattern") hts (by decide +kernel)
  obtain ⟨c6, p6⟩ := f_obj (C := "JobBoard$Order") hts (by decide +kernel)
  refine ⟨(fun c => (hc c).choose, fun c => (hc c).choose_spec.choose), (fun k => [c0, c1, c2, c3, c4, c5, c6].getD k c0), fun c q hq => (hc c).choose_spec.choose_spec q hq, fun k q hq => ?_⟩
  match k, hq with
  | 0, hq => cases hq; exact p0
  | 1, hq => cases hq; exact p1
  | 2, hq => cases hq; exact p2
  | 3, hq => cases hq; exact p3
  | 4, hq => cases hq; exact p4
  | 5, hq => cases hq; exact p5
  | 6, hq => cases hq; exact p6
  | k + 7, hq => cases hq
theorem f_Nw (hts : ∀ w ∈ lw_tbl, w.before args s = true) : r_Nw s := by
  have h1 : (r_nests.all fun q => decide (Cond.methodLinkNest q.1 q.2.1 q.2.2.1 q.2.2.2 ∈ lw_tbl)) = true := by decide +kernel
  have h2 : (["JobBoard$Session", "JobBoard$Tuple", "JobBoard$Pattern", "JobBoard$Order"].all fun C => decide (Cond.arrayOver (.object C) ∈ lw_tbl)) = true := by decide +kernel
  exact ⟨fun q hq => va_Nw.of rfl (f_hts hts (List.all_eq_true.mp h1 q hq)), fun C hC => (f_hts (args := args) hts (List.all_eq_true.mp h2 C hC) : (Cond.arrayOver (.object C)).before args s = true)⟩
/-- a static field's value stands where the tables are warmer and the old cells are as they were -/
theorem f_eval {s U : State} (hal : s.vm.Alike U.vm) (hk : ∀ q, q < s.heap.size → U.heap[q]? = s.heap[q]?) {C n d : String} {a a' : Array Value} {v : Value} (h : (Term.static C n d).eval a s none [] s = some v) : (Term.static C n d).eval a' U none [] U = some v := by
  rcases hf : s.fieldFound? C n d with _ | ⟨cf, k, ix, f⟩
  · simp [Term.eval, State.fieldNamed?, hf] at h
  obtain ⟨k', hf', he⟩ := State.fieldFound?_setVm hal hf
  replace hf' : U.fieldFound? C n d = some (cf, k', ix, f) := hf'
  by_cases hst : f.isStatic = true
  · rcases hs : k.statics with _ | ad
    · simp [Term.eval, State.fieldNamed?, hf, hst, hs] at h
    rcases hc : s.heap[ad]? with _ | cell
    · simp [Term.eval, State.fieldNamed?, hf, hst, hs, hc] at h
    have hc' : U.heap[ad]? = some cell := by rw [hk ad (Array.getElem?_eq_some_iff.mp hc).1]; exact hc
    have hs' : k'.statics = some ad := by rw [he]; exact hs
    simp [Term.eval, State.fieldNamed?, hf, hst, hs, hc] at h
    simp [Term.eval, State.fieldNamed?, hf', hst, hs', hc', h]
  · simp [Term.eval, State.fieldNamed?, hf, hst] at h
/-- the words that throwing asks for -/
def f_rk : Cond → Bool
  | .laysStatic _ _ _ => true
  | .isRef (.static _ _ _) => true
  | c => c.tabsOnly
theorem f_ride {s U : State} (hW : s.WarmedH U.vm) (hk : ∀ q, q < s.heap.size → U.heap[q]? = s.heap[q]?) {a a' : Array Value} (c : Cond) (hc : f_rk c = true) (h : c.before a s = true) : c.before a' U = true := by
  unfold f_rk at hc
  split at hc
  · obtain ⟨cc, k, ix, f, ad, cell, h1, h2, h3, h4, h5, h6, h7, h8, h9⟩ := Cond.laysStatic_spec h
    obtain ⟨k', hf', he⟩ := State.fieldFound?_setVm hW.alike h2
    exact Cond.laysStatic_of (s := U) (by rw [hW.alike.findClass]; exact h1) hf' h3 (by rw [he]; exact h4) (by rw [hk ad (Array.getElem?_eq_some_iff.mp h5).1]; exact h5) h6 h7 h8 (by rw [he]; exact h9)
  · rename_i C n d
    rcases hv : (Term.static C n d).eval a s none [] s with _ | v
    · simp [Cond.before, Cond.holds, Cond.value, hv] at h
    have hv' : (Term.static C n d).eval a' U none [] U = some v := f_eval hW.alike hk hv
    simp only [Cond.before, Cond.holds, Cond.value, hv, hv'] at h ⊢
    exact h
  · have h2 := Cond.tabsOnly_warm (args' := a') (T := U) hW c hc h
    have e : U.setVm U.vm = U := by cases U; rfl
    rw [e] at h2
    exact h2
theorem f_Th (hts : ∀ w ∈ lw_tbl, w.before args s = true) (hg : (Jvm.Cond.and given_1 narrow_1).before args s = true) : q_Th (r_A s.heap.size) s := by
  have hfl := flat_of_before _ hg
  have h1 : ([1, 2, 3, 4].all fun k => (q_xw k).all fun w => f_rk w && (decide (w ∈ lw_tbl) || decide (w ∈ flatC (Jvm.Cond.and given_1 narrow_1)))) = true := by decide +kernel
  intro k k1 k4 w hw a U' hW hk
  have hkm : k ∈ [1, 2, 3, 4] := by
    have : k = 1 ∨ k = 2 ∨ k = 3 ∨ k = 4 := by omega
    rcases this with q | q | q | q <;> rw [q] <;> decide
  have h2 := List.all_eq_true.mp (List.all_eq_true.mp h1 k hkm) w hw
  rw [Bool.and_eq_true, Bool.or_eq_true] at h2
  exact f_ride hW (fun y hy => hk y hy (fun q => Nat.not_le.mpr hy q)) (a := args) w h2.1 (h2.2.elim (fun q => f_hts hts q) (fun q => hfl w (of_decide_eq_true q)))
theorem f_Tn (hts : ∀ w ∈ lw_tbl, w.before args s = true) (hg : (Jvm.Cond.and given_1 narrow_1).before args s = true) : q_Tn s := by
  have hfl := flat_of_before _ hg
  have h1 : ([1, 2, 3, 4].all fun i => decide (Cond.castable (q_xn i) (q_xn i) ∈ lw_tbl)) = true := by decide +kernel
  have h2 : ([1, 2, 3, 4].all fun i => [1, 2, 3, 4].all fun j => decide (i = j) || decide (Cond.not (Cond.castable (q_xn i) (q_xn j)) ∈ flatC (Jvm.Cond.and given_1 narrow_1))) = true := by decide +kernel
  have mem : ∀ k, 1 ≤ k → k ≤ 4 → k ∈ [1, 2, 3, 4] := fun k k1 k4 => by
    have : k = 1 ∨ k = 2 ∨ k = 3 ∨ k = 4 := by omega
    rcases this with q | q | q | q <;> rw [q] <;> decide
  intro i j i1 i4 j1 j4
  obtain ⟨c, c', hc, hc', hcc⟩ := Cond.castable_spec (f_hts hts (List.all_eq_true.mp h1 i (mem i i1 i4)))
  obtain ⟨t, t', ht, ht', htt⟩ := Cond.castable_spec (f_hts hts (List.all_eq_true.mp h1 j (mem j j1 j4)))
  refine ⟨c, t, hc, ht, ?_⟩
  by_cases e : i = j
  · subst e
    cases hc.symm.trans ht
    cases hc.symm.trans hc'
    rw [hcc]
    exact (decide_eq_true rfl).symm
  · have h3 := List.all_eq_true.mp (List.all_eq_true.mp h2 i (mem i i1 i4)) j (mem j j1 j4)
    rw [decide_eq_false e, Bool.false_or] at h3
    have h4 := hfl _ (of_decide_eq_true h3)
    rw [decide_eq_false e]
    cases ha : s.vm.assignable c t with
    | false => rfl
    | true => simp [Cond.before, Cond.holds, Cond.value, hc, ht, ha] at h4
end FIN
