/-! Throwing: a fresh exception leaves a method; a call that throws. Ours. -/
section REB
variable {p : Program} {l : Launch} {e : Env} {R : Room} {s : State} {m : MethodId} {args : Array Value} {below : List Frame} {meth : Method} {c : Code} {T : State} {locs : List Loc} {cells slots : Nat}
/-- the invocation's state with the heap as it is now: from there on nothing has been written -/
abbrev q_now (s T : State) : State := { s with heap := T.heap, slotsUsed := T.slotsUsed }
theorem q_rebase (X : Stand p l e R s m args below meth c T locs cells slots) {a b : Nat} (hc : cells + a ≤ R.cells) (hs : slots + b ≤ R.slots) :
    Stand p l e { frames := R.frames, cells := a, slots := b, locals := R.locals } (q_now s T) m args below meth c T [] 0 0 := by
  have hroom : (q_now s T).hasRoom e.platform { frames := R.frames, cells := a, slots := b, locals := R.locals } = true := by
    have h := X.room
    have h1 := X.heapSize
    have h2 := X.used
    have h3 := X.book
    simp only [State.hasRoom, Bool.and_eq_true, decide_eq_true_eq] at h ⊢
    obtain ⟨⟨⟨⟨g1, g2⟩, g3⟩, g4⟩, g5⟩ := h
    refine ⟨⟨⟨⟨g1, g2⟩, ?_⟩, ?_⟩, h3⟩
    · show T.heap.size + a ≤ _
      omega
    · show T.slotsUsed + b ≤ _
      omega
  refine ⟨X.admits, X.cas, X.clock, X.frames, hroom, X.hears, X.method, X.code, X.here, X.tail, X.warmed, X.limits, X.bytes, ?_⟩
  obtain ⟨e2, q2, q3, q4, q5, q6⟩ := X.same
  refine ⟨e2, Nat.le_refl _, Nat.le_refl _, ?_, ?_, fun a c h => ⟨c, h, rfl, rfl, fun _ _ => rfl⟩⟩
  · show T.slotsUsed = T.slotsUsed + ((T.heap.toList.drop T.heap.size).map (·.slots.size)).sum
    rw [List.drop_eq_nil_of_le (by simp)]
    rfl
  · show ((T.heap.toList.drop T.heap.size).map (·.slots.size)).sum ≤ 0
    rw [List.drop_eq_nil_of_le (by simp)]
    exact Nat.le_refl _
end REB
/-- a word that holds at U and wherever the tables are warmer and no cell outside of A has changed -/
def q_Sw (A : Nat → Prop) (w : Cond) (U : State) : Prop := ∀ (a : Array Value) (U' : State), U.WarmedH U'.vm → (∀ q, q < U.heap.size → ¬ A q → U'.heap[q]? = U.heap[q]?) → w.before a U' = true
theorem q_Sw.go {A : Nat → Prop} {w : Cond} {U V : State} (h : q_Sw A w U) (hW : U.WarmedH V.vm) (hz : U.heap.size ≤ V.heap.size) (hk : ∀ q, q < U.heap.size → ¬ A q → V.heap[q]? = U.heap[q]?) : q_Sw A w V := fun a U' hW' hk' => h a U' (State.WarmedH.trans hW hW') (fun q h1 h2 => (hk' q (Nat.lt_of_lt_of_le h1 hz) h2).trans (hk q h1 h2))
def q_xw (k : Nat) : List Cond := Bundle.ownAtoms0 "JobBoard" (q_xi k) (q_xn k) ["java/lang/RuntimeException", "java/lang/Exception"]
def q_Th (A : Nat → Prop) (U : State) : Prop := ∀ k, 1 ≤ k → k ≤ 4 → ∀ w ∈ q_xw k, q_Sw A w U
def q_FX (s t : State) (L : List Loc) (k n : Nat) : Prop := s.WarmedH t.vm ∧ s.sameButNew ({ t with vm := s.vm } : State) L k n
def q_MX (below : List Frame) (Qx : State → Addr → State → Prop) (s : State) (mc ms : Nat) (free : Addr → Prop) : State → Prop := fun t => ∃ x, t.status = .running ∧ Ended t below (.threw x) ∧ Qx s x t ∧ ∃ L, q_FX s t L mc ms ∧ ∀ q ∈ L, free q.base
def q_QX (D : va_G) (cy : Nat → ClassId) (ad : Nat → Nat → Nat) (n : Nat) (A : Nat → Prop) (ex : Nat) (σ : J) : State → Addr → State → Prop := fun st x t => WJ D cy ad n σ t.heap ∧ va_F A st t ∧ st.heap.size ≤ x ∧ ∃ ce : Cell, t.heap[x]? = some ce ∧ ce.vm = .none ∧ t.vm.findClass (q_xn ex) = some ce.cls
section THR
variable {mt : Nat → MRow} {p : Program} {l : Launch} {e : Env} {R : Room} {s : State} {m : MethodId} {args : Array Value} {below : List Frame} {meth : Method} {c : Code} {D : va_G} {cy : Nat → ClassId} {ad : Nat → Nat → Nat} {n k cells slots pc : Nat} {A : Nat → Prop} {σ : J}
theorem q_xfit : ∀ k, Bundle.fit (q_xn k) = true := by
  intro k
  match k with
  | 0 => decide +kernel
  | 1 => decide +kernel
  | 2 => decide +kernel
  | 3 => decide +kernel
  | _ + 4 => exact (by decide +kernel : Bundle.fit "java/lang/UnsupportedOperationException" = true)
theorem q_thr (cx : q_Cx mt p s m meth c args k D cy n ad A R cells slots) (hTh : q_Th A s) (htr : ∀ e, l.admits e → e.platform.stackTraces = false) {ex : Nat} (hx1 : 1 ≤ ex) (hx4 : ex ≤ 4) (hown : (mt k).1.cls = "JobBoard")
    (w1 : Cond.classLink "JobBoard" (q_xc ex) (q_xn ex) ∈ gt) (w2 : Cond.instantiable (q_xn ex) 6 ∈ gt) (w3 : Cond.initialized (q_xn ex) ∈ gt)
    (d0 : decode (mt k).2.1 pc = .ok (.new (q_xc ex), 3)) (d3 : decode (mt k).2.1 (pc + 3) = .ok (.dup, 1)) (d4 : decode (mt k).2.1 (pc + 4) = .ok (.invokespecial (q_xi ex), 3)) (d7 : decode (mt k).2.1 (pc + 7) = .ok (.athrow, 1))
    (hnh : ∀ x ∈ c.exceptionTable.toList, covers x (pc + 7) = false) (hc : cells + 1 ≤ R.cells) (hs : slots + 6 ≤ R.slots) (hfr : 6 ≤ R.frames) (hlo : 90 ≤ R.locals)
    {H : Heap} {locs : List Loc} {ls : Array Slot} (hP : WJ D cy ad n σ H) (hS : va_S A s.heap H locs) (hsz : ls.size = (mt k).2.2.1) :
    W p l e R s m args below meth c H locs cells slots (q_MX below (q_QX D cy ad n A ex σ) s (cells + 1) (slots + 6) A) (F0 m pc ls []) := by
  intro T hT X
  have X' := q_rebase X hc hs
  have ho : s.vm.findClass "JobBoard" = some m.cls := by rw [← hown]; exact cx.2.2.2.1
  have hsW : s.WarmedH (q_now s T).vm := State.WarmedH.refl s
  have hw : ∀ w ∈ gt, w.before args (q_now s T) = true := fun w h => word_at hsW (good_of_word (gt_good w h)) (cx.2.2.2.2.1 w h)
  have hat : ∀ a ∈ q_xw ex, a.before args (q_now s T) = true := fun w h => hTh ex hx1 hx4 w h args (q_now s T) hsW (fun q h1 h2 => by
    show T.heap[q]? = s.heap[q]?
    rw [hT]
    exact hS.2.1 q h1 h2)
  have key : W p l e { frames := R.frames, cells := 1, slots := 6, locals := R.locals } (q_now s T) m args below meth c T.heap [] 0 0 (fun U => ∃ x, U.status = .running ∧ Ended U below (.threw x) ∧ (q_now s T).WarmedH U.vm ∧ (q_now s T).sameButNew ({ U with vm := (q_now s T).vm } : State) [] 1 6 ∧ T.heap.size ≤ x ∧ ∃ ce : Cell, U.heap[x]? = some ce ∧ Bundle.OwnCell args (q_now s T) (q_xn ex) x .null ce) (F0 m pc ls []) := by
    refine W.newc (n := 6) (s := q_now s T) (args := args) (g := F0 m pc ls []) (cc := (mt k).2.1) (R := { frames := R.frames, cells := 1, slots := 6, locals := R.locals }) (cells := 0) (slots := 0) cx.1 cx.2.1 ho (hw _ w1) (hw _ w2) (hw _ w3) rfl d0 (by show 0 + 1 ≤ 1; decide) (by show 0 + 6 ≤ 6; decide) (fun cC kC h1 h2 h3 h4 => ?_)
    refine lv_dup cx.1 cx.2.1 d3 rfl ?_
    intro T2 hT2 X2
    obtain ⟨U, st, hrun, hend, hW, hsame, ce, hce, hown2⟩ := X2.ctorThrow0 cx.1 (htr e X.admits) (own := "JobBoard") (cls := q_xn ex) (names := ["java/lang/RuntimeException", "java/lang/Exception"]) (ic := q_xi ex) ho (q_xfit ex) (by decide +kernel) hat (fun x hx => by cases hx)
      (a := T.heap.size) h1 h2 (by rw [hT2]; simp) (Nat.le_refl _) (g := F0 m (pc + 3 + 1) ls [.ref T.heap.size, .ref T.heap.size]) rfl (by rw [cx.2.2.1]; exact hsz) rfl rfl (rest := []) rfl (by rw [cx.2.1]; exact d4) (by rw [cx.2.1]; exact d7) hnh (by show 2 + 3 < R.frames; omega) (by
        show 2 * 0 + (1 + 0) + (13 * (2 + 1) + 41) ≤ R.locals
        omega) cx.2.2.2.2.2.2.2.1
    exact ⟨U, st, T.heap.size, hrun, hend, hW, hsame, Nat.le_refl _, ce, hce, hown2⟩
  obtain ⟨U, st, x, hrun, hend, hW, hsame, hx, ce, hce, hoc⟩ := key T rfl X'
  have hold : ∀ (q : Nat) (cl : Cell), T.heap[q]? = some cl → U.heap[q]? = some cl := fun q cl h => State.sameButNew.old_cell hsame h
  have hsz2 : T.heap.size ≤ U.heap.size := hsame.2.1
  have hkeep : ∀ q, q < T.heap.size → U.heap[q]? = T.heap[q]? := fun q hq => by
    rw [Array.getElem?_eq_getElem hq]
    exact hold q _ (Array.getElem?_eq_getElem hq)
  refine ⟨U, st, x, hrun, hend, ⟨hP.kept (fun k' q hq => ?_), ⟨?_, fun q h1 h2 => ?_⟩, ?_, ce, hce, hoc.vm, ?_⟩, locs, ⟨hW, ?_⟩, hS.2.2⟩
  · have := (hP k' q hq).lt
    rw [← hT] at this ⊢
    exact hkeep _ this
  · rw [← hT] at hS
    exact Nat.le_trans hS.1 hsz2
  · rw [← hT] at hS
    rw [hkeep q (Nat.lt_of_lt_of_le h1 hS.1)]
    exact hS.2.1 q h1 h2
  · rw [← hT] at hS
    exact Nat.le_trans hS.1 hx
  · rw [hW.alike.findClass]
    exact hoc.cls
  · have h2 : (T.setVm s.vm).sameButNew ({ U with vm := s.vm } : State) [] 1 6 := by
      obtain ⟨e2, q2, q3, q4, q5, q6⟩ := hsame
      refine ⟨?_, q2, q3, q4, q5, q6⟩
      have e1 := X.same.1
      refine e2.trans ?_
      rw [e1]
      show _ = ({ (({ s.setFrames (T.setVm s.vm).frames with heap := T.heap, slotsUsed := T.slotsUsed } : State).setFrames U.frames) with heap := U.heap, slotsUsed := U.slotsUsed } : State)
      have e3 : (({ s.setFrames (T.setVm s.vm).frames with heap := T.heap, slotsUsed := T.slotsUsed } : State).setFrames U.frames) = ({ (s.setFrames (T.setVm s.vm).frames).setFrames U.frames with heap := T.heap, slotsUsed := T.slotsUsed } : State) := rfl
      rw [e3, State.setFrames_setFrames]
      rfl
    have h3 := X.same.trans h2
    rw [List.append_nil] at h3
    exact h3
end THR
