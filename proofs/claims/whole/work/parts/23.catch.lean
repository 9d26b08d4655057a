/-! A handler whose class may not be resolved yet: the search resolves it; the frame goes on there. Ours. -/
section FND
variable {E : CtlPost} {e : Env} {d : Bool} {acts : List Action} {s : State} {f : JFrame} {a : Addr} {Q : Handler → Pre}
theorem q_go_cold {x : ExceptionTableEntry} {t : List ExceptionTableEntry} {c : ClassId} {cell : Cell} {vm' : Vm} (hx : covers x f.pc = true) (h0 : x.catchType ≠ 0)
    (hg : (Jvm.resolveClass f.method.cls x.catchType).Gives e.toSetting s.vm (.ok c) vm') (hsz : vm'.classes.size ≤ s.vm.classes.size) (hcell : s.heap[a]? = some cell) (hobj : ∀ k, cell.vm ≠ .statics k)
    (hk : ∃ k, vm'.classes[cell.cls]? = some k) (hc : ∃ k, vm'.classes[c]? = some k) :
    wp (findHandler.go f a (x :: t)) Q E e d acts s ↔
      if vm'.assignable cell.cls c = true then Q (.found x.handlerPc) d acts (s.setVm vm') else wp (findHandler.go f a t) Q E e d acts (s.setVm vm') := by
  simp only [covers] at hx
  obtain ⟨ha, ht⟩ := hg.op (op := VmOp.resolveClass f.method.cls x.catchType) rfl
  cases hfit : vm'.assignable cell.cls c <;>
    simp [findHandler.go, hx, h0, ha, ht, hsz, hcell, hobj, hk, hc, hfit, VmOp.dirties, VmOp.acts]
/-- the search ends with h, the tables then are vm' -/
def q_Fi (e : Env) (s : State) (f : JFrame) (a : Addr) (h : Handler) (vm' : Vm) : Prop := ∀ (Q : Handler → Pre) (E : CtlPost) (d : Bool) (acts : List Action), wp (findHandler f a) Q E e d acts s ↔ Q h d acts (s.setVm vm')
theorem q_step_catch {r : List Frame} {pc : Nat} {vm' : Vm} (hfind : q_Fi e s f a (.found pc) vm') : (stepThrowing e s a (.java f :: r)).Is ((s.setVm vm').setFrames (.java { f with pc := pc, stack := [.ref a] } :: r)) [] := by
  simp only [stepThrowing, searchFrame, vmDo]
  generalize hr : Sem.go _ e false [] s = res
  obtain ⟨as, rfl, ha⟩ := Sem.eq_ok_of hr (a := Handler.found pc) (s' := s.setVm vm') (acts' := []) (by simp [hfind _ _ _ _])
  exact ⟨rfl, ha⟩
theorem q_caught {p : Program} {l : Launch} {R : Room} {s : State} {m : MethodId} {args : Array Value} {below : List Frame} {meth : Method} {c : Code} {T : State} {locs : List Loc} {cells slots : Nat} (X : Stand p l e R s m args below meth c T locs cells slots) (a : Addr) {g : JFrame} (hg : g.method = m) {pc : Nat} {vm' : Vm}
    (hfind : q_Fi e ((T.setTop g).pushFrame (.throwing a)) g a (.found pc) vm') {target : State} (hrest : Steps p.tables e below ((T.setVm vm').setTop { g with pc := pc, stack := [.ref a] }) target) :
    Steps p.tables e below ((T.setTop g).pushFrame (.throwing a)) target := by
  have h : At T g.method c below := by rw [hg]; exact X.here
  obtain ⟨hgo, hw⟩ := h.throwing a
  refine Steps.head hgo hw ?_
  rw [stepThread_throwing (frames_entered h.top _), (q_step_catch (s := (T.setTop g).pushFrame (.throwing a)) hfind).1]
  obtain ⟨g₀, hg0⟩ := Option.isSome_iff_exists.mp h.top
  obtain ⟨r, hr⟩ := State.topJava?_eq_some.mp hg0
  have hr' : (T.setVm vm').frames = .java g₀ :: r := hr
  have e1 : ((T.setTop g).pushFrame (.throwing a)).setVm vm' = ((T.setVm vm').setTop g).pushFrame (.throwing a) := rfl
  rw [e1, State.pushFrame, State.setFrames_setFrames, State.setTop_of_frames _ hr', State.setFrames_setFrames]
  rw [State.setTop_of_frames _ hr'] at hrest
  rw [hr]
  exact hrest
end FND
/-- the law's catch types, as numbers of exceptions -/
def q_hx (ct : Nat) : Nat := match ct with
  | 13 => 1
  | 15 => 2
  | 17 => 3
  | 19 => 4
  | _ => 0
def q_pick (pc ex : Nat) : List (Nat × Nat × Nat × Nat) → Option Nat
  | [] => none
  | h :: r => bif Nat.ble h.1 pc && (Nat.blt pc h.2.1 && (Nat.blt 0 (q_hx h.2.2.2) && Nat.ble (q_hx h.2.2.2) 4)) then (bif Nat.beq (q_hx h.2.2.2) ex then some h.2.2.1 else q_pick pc ex r) else none
/-- which exceptions are which -/
def q_Tn (U : State) : Prop := ∀ i j, 1 ≤ i → i ≤ 4 → 1 ≤ j → j ≤ 4 → ∃ c t : ClassId, U.vm.findClass (q_xn i) = some c ∧ U.vm.findClass (q_xn j) = some t ∧ U.vm.assignable c t = decide (i = j)
theorem q_Tn.moved {u U : State} (hvm : u.vm.Alike U.vm) (h : q_Tn u) : q_Tn U := fun i j h1 h2 h3 h4 => by
  obtain ⟨c, t, g1, g2, g3⟩ := h i j h1 h2 h3 h4
  exact ⟨c, t, by rw [hvm.findClass]; exact g1, by rw [hvm.findClass]; exact g2, by rw [hvm.assignable]; exact g3⟩
theorem q_cl13 : ∀ ct, 0 < q_hx ct → Cond.classLink "JobBoardLaw" ct (q_xn (q_hx ct)) ∈ gt := by
  intro ct h
  have hall : ([13, 15, 17, 19].all fun ct => decide (Cond.classLink "JobBoardLaw" ct (q_xn (q_hx ct)) ∈ lw_tbl) && goodWord (Cond.classLink "JobBoardLaw" ct (q_xn (q_hx ct)))) = true := by decide +kernel
  have hm : ct ∈ [13, 15, 17, 19] := by
    unfold q_hx at h
    split at h <;> simp_all
  have h2 := List.all_eq_true.mp hall ct hm
  rw [Bool.and_eq_true] at h2
  exact gt_of (of_decide_eq_true h2.1) h2.2
section FNE
variable {p : Program} {l : Launch} {e : Env} {R : Room} {s : State} {m : MethodId} {args : Array Value} {below : List Frame} {meth : Method} {c : Code} {T : State} {locs : List Loc} {cells slots : Nat}
theorem q_find_go (hpl : e.platform.magicAccessors = ({} : Platform).magicAccessors) (hown : s.vm.findClass "JobBoardLaw" = some m.cls) (hts : ∀ w ∈ gt, w.before args s = true) (hTn : q_Tn s) {S : State} {g : JFrame} (hg : g.method = m) {a : Addr} {cell : Cell} (hcell : S.heap[a]? = some cell) (hobj : ∀ k, cell.vm ≠ .statics k) {ex hpc : Nat} (hx1 : 1 ≤ ex) (hx4 : ex ≤ 4) (hcc : s.vm.findClass (q_xn ex) = some cell.cls) :
    ∀ (ents : List ExceptionTableEntry) (vm₀ : Vm), s.WarmedH vm₀ → q_pick g.pc ex (ents.map (fun h => (h.startPc, h.endPc, h.handlerPc, h.catchType))) = some hpc →
      ∃ vm', s.WarmedH vm' ∧ ∀ (Q : Handler → Pre) (E : CtlPost) (d : Bool) (acts : List Action), wp (findHandler.go g a ents) Q E e d acts (S.setVm vm₀) ↔ Q (.found hpc) d acts (S.setVm vm') := by
  intro ents
  induction ents with
  | nil => intro vm₀ _ h; cases h
  | cons x t ih =>
    intro vm₀ hW h
    replace h : (bif Nat.ble x.startPc g.pc && (Nat.blt g.pc x.endPc && (Nat.blt 0 (q_hx x.catchType) && Nat.ble (q_hx x.catchType) 4)) then (bif Nat.beq (q_hx x.catchType) ex then some x.handlerPc else q_pick g.pc ex (t.map (fun h => (h.startPc, h.endPc, h.handlerPc, h.catchType)))) else none) = some hpc := h
    obtain ⟨hb, h⟩ := q_bf h
    simp only [Bool.and_eq_true] at hb
    have b1 := Nat.le_of_ble_eq_true hb.1
    have b2 := Nat.blt_eq.mp hb.2.1
    have b3 := Nat.blt_eq.mp hb.2.2.1
    have b4 := Nat.le_of_ble_eq_true hb.2.2.2
    have hx : covers x g.pc = true := by simp [covers, b1, b2]
    have h0 : x.catchType ≠ 0 := fun q => by
      rw [q] at b3
      exact absurd b3 (by decide)
    obtain ⟨cc, hfc, hcl⟩ := Cond.classLink_spec hown (hts _ (q_cl13 _ b3)) e.platform hpl
    obtain ⟨hg1, hW1, -⟩ := State.classEntry (e := e) hW hcl
    obtain ⟨cA, cB, f1, f2, f3⟩ := hTn ex (q_hx x.catchType) hx1 hx4 b3 b4
    cases f1.symm.trans hcc
    cases f2.symm.trans hfc
    have hk : ∃ k, (vm₀.noted m.cls x.catchType (.cls cc)).classes[cell.cls]? = some k := Vm.classAt_of_findClass (name := q_xn ex) (by rw [hW1.alike.findClass]; exact hcc)
    have hc : ∃ k, (vm₀.noted m.cls x.catchType (.cls cc)).classes[cc]? = some k := Vm.classAt_of_findClass (name := q_xn (q_hx x.catchType)) (by rw [hW1.alike.findClass]; exact hfc)
    have has : (vm₀.noted m.cls x.catchType (.cls cc)).assignable cell.cls cc = decide (ex = q_hx x.catchType) := by rw [hW1.alike.assignable]; exact f3
    subst hg
    have hstep : ∀ (Q : Handler → Pre) (E : CtlPost) (d : Bool) (acts : List Action), wp (findHandler.go g a (x :: t)) Q E e d acts (S.setVm vm₀) ↔ if (vm₀.noted g.method.cls x.catchType (.cls cc)).assignable cell.cls cc = true then Q (.found x.handlerPc) d acts ((S.setVm vm₀).setVm (vm₀.noted g.method.cls x.catchType (.cls cc))) else wp (findHandler.go g a t) Q E e d acts ((S.setVm vm₀).setVm (vm₀.noted g.method.cls x.catchType (.cls cc))) :=
      fun Q E d acts => q_go_cold hx h0 hg1 (by show (vm₀.noted _ _ _).classes.size ≤ vm₀.classes.size; rw [Vm.size_noted]; exact Nat.le_refl _) hcell hobj hk hc
    cases he : Nat.beq (q_hx x.catchType) ex with
    | true =>
      rw [he] at h
      have h : some x.handlerPc = some hpc := h
      cases h
      refine ⟨_, hW1, fun Q E d acts => (hstep Q E d acts).trans ?_⟩
      rw [has, if_pos (by simp [(Nat.eq_of_beq_eq_true he)])]
      exact Iff.rfl
    | false =>
      rw [he] at h
      have hne := q_beq_ne he
      obtain ⟨vm', hW', hgo⟩ := ih _ hW1 h
      refine ⟨vm', hW', fun Q E d acts => (hstep Q E d acts).trans ?_⟩
      rw [has, if_neg (by simp [Ne.symm hne])]
      exact hgo Q E d acts
/-- caught: the frame goes on at the handler -/
theorem q_catch (X : Stand p l e R s m args below meth c T locs cells slots) (hown : s.vm.findClass "JobBoardLaw" = some m.cls) (hts : ∀ w ∈ gt, w.before args s = true) (hTn : q_Tn s) {g : JFrame} (hg : g.method = m) {x : Addr} {ce : Cell} (hce : T.heap[x]? = some ce) (hcv : ce.vm = .none) {ex hpc : Nat} (hx1 : 1 ≤ ex) (hx4 : ex ≤ 4) (hcc : T.vm.findClass (q_xn ex) = some ce.cls)
    (hpk : q_pick g.pc ex (c.exceptionTable.toList.map (fun h => (h.startPc, h.endPc, h.handlerPc, h.catchType))) = some hpc) {Q : State → Prop}
    (kk : W p l e R s m args below meth c T.heap locs cells slots Q { g with pc := hpc, stack := [.ref x] }) : ∃ t, Steps p.tables e below ((T.setTop g).pushFrame (.throwing x)) t ∧ Q t := by
  have hpl : e.platform.magicAccessors = ({} : Platform).magicAccessors := by rw [X.admits.platform]
  have hcs : s.vm.findClass (q_xn ex) = some ce.cls := by rw [← X.warmed.alike.findClass]; exact hcc
  obtain ⟨vm', hW', hgo⟩ := q_find_go (a := x) hpl hown hts hTn (S := (T.setTop g).pushFrame (.throwing x)) hg (by rw [Stand.throwing_heap]; exact hce) (fun k h => by rw [hcv] at h; cases h) hx1 hx4 hcs c.exceptionTable.toList T.vm X.warmed hpk
  have hm : ((T.setTop g).pushFrame (.throwing x)).vm.method? g.method = some meth := by rw [Stand.throwing_vm, hg]; exact X.method'
  have hfind : q_Fi e ((T.setTop g).pushFrame (.throwing x)) g x (.found hpc) vm' := by
    intro Q E d acts
    rw [W.findHandler_eq hm X.code]
    have e1 : ((T.setTop g).pushFrame (.throwing x)).setVm T.vm = (T.setTop g).pushFrame (.throwing x) := rfl
    have h2 := hgo Q E d acts
    rw [e1] at h2
    exact h2
  obtain ⟨t, a1, b1⟩ := kk (T.setVm vm') rfl (X.noted hW')
  exact ⟨t, q_caught X x hg hfind a1, b1⟩
end FNE
