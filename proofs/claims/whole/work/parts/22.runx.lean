/-! Runs of the interpreter that end in an exception are runs of the machine that throw. Ours, written by runx.py -/
def q_CX (l : Launch) (mt : Nat → MRow) (rm : Room) (D : va_G) (cy : Nat → ClassId) (ad : Nat → Nat → Nat) (n : Nat) (A : Nat → Prop) (k : Nat) (vs : List PV) (σ : J) (ex : Nat) (σ1 : J) : Prop :=
  q_Mx l (mt k).1 (Cond.code (mt k).1 (mt k).2.1 (mt k).2.2.1 (mt k).2.2.2 :: gt) rm (va_Pc (vs.map (q_tv ad)) (fun U => WJ D cy ad n σ U.heap ∧ va_K D vcl (q_ty cy) U ∧ q_Th A U)) (q_QX D cy ad n A ex σ1) 1 6 A
theorem q_af_or {n : Nat} {g : List PV → J → Option Res} {rest : List PV} {z r : Res} (h : q_af n g rest z = some r) : (∃ v σ1, z = (.inl v, σ1) ∧ (∀ w, v = some w → q_ok n w = true) ∧ g (v.toList ++ rest) σ1 = some r) ∨ ∃ ex σ1, z = (.inr ex, σ1) ∧ r = (.inr ex, σ1) := by
  obtain ⟨v | ex, σ1⟩ := z
  · left
    cases v with
    | none => exact ⟨none, σ1, rfl, (fun w hw => by cases hw), h⟩
    | some v =>
      obtain ⟨h1, h2⟩ := q_bf (show (bif q_ok n v then g (v :: rest) σ1 else none) = some r from h)
      exact ⟨some v, σ1, rfl, (fun w hw => by cases hw; exact h1), h2⟩
  · have h : some (Sum.inr ex, σ1) = some r := h
    exact Or.inr ⟨ex, σ1, rfl, (Option.some.inj h).symm⟩
theorem q_Th.go {A : Nat → Prop} {U V : State} (h : q_Th A U) (hW : U.WarmedH V.vm) (hz : U.heap.size ≤ V.heap.size) (hk : ∀ q, q < U.heap.size → ¬ A q → V.heap[q]? = U.heap[q]?) : q_Th A V := fun k h1 h2 w hw => (h k h1 h2 w hw).go hW hz hk
def q_x3 (k : Nat) : List Cond := [Cond.classLink "JobBoard" (q_xc k) (q_xn k), Cond.instantiable (q_xn k) 6, Cond.initialized (q_xn k)]
theorem q_x3_in : ∀ k, 1 ≤ k → k ≤ 4 → ∀ w ∈ q_x3 k, w ∈ gt := by
  intro k h1 h4 w hw
  have h : ((List.range 5).all fun k => (Nat.beq k 0) || (q_x3 k).all fun w => decide (w ∈ lw_tbl) && goodWord w) = true := by decide +kernel
  have h2 := List.all_eq_true.mp h k (List.mem_range.mpr (by omega))
  rw [Bool.or_eq_true] at h2
  rcases h2 with h2 | h2
  · have := Nat.eq_of_beq_eq_true h2
    omega
  · have h3 := List.all_eq_true.mp h2 w hw
    rw [Bool.and_eq_true] at h3
    exact gt_of (of_decide_eq_true h3.1) h3.2
section SNX
variable {mt : Nat → MRow} {p : Program} {l : Launch} {e : Env} {R : Room} {s : State} {m : MethodId} {args : Array Value} {below : List Frame} {meth : Method} {c : Code} {D : va_G} {cy : Nat → ClassId} {ad : Nat → Nat → Nat} {n k cells slots pc : Nat} {A : Nat → Prop} {g : Nat → PL → List PV → J → Option Res} {cal : Nat → List PV → J → Option Res} {r : Res} {L : PL} {st : List PV} {σ : J} {ox : Int} {oa ob : Nat} {ol : List Nat} {ex : Nat} {σx : J}
theorem q_toX {T : State} {H : Heap} {vm₁ : Vm} {locs : List Loc} {g0 g1 : JFrame} {k1 : Nat} {vs : List PV} {σ : J} {mk : MethodId} {ig : Instr} {rmx : Room} (cx : q_Cx mt p s m meth c args k D cy n ad A R cells slots) (hTh : q_Th A s) (hc1 : cells + 1 ≤ R.cells) (hs6 : slots + 6 ≤ R.slots) (hrx : rmx.cells = 1 ∧ rmx.slots = 6 ∧ rmx.frames + 1 ≤ R.frames ∧ 49 + rmx.locals ≤ R.locals)
    (hT : T.heap = H) (hP : WJ D cy ad n σ H) (hS : va_S A s.heap H locs) (X₁ : Stand p l e R s m args below meth c (T.setVm vm₁) locs cells slots) (hg1 : g1.method = m) (hsz : g1.locals.size = c.maxLocals) (hdg : decode c.code g1.pc = .ok (ig, 3)) (hW : 2 * g1.monitorRoom + (g1.stack.map fun v => v.category).sum ≤ 8)
    (hM : q_CX l mt rmx D cy ad n A k1 vs σ ex σx) (hn : (T.setVm vm₁).methodNamed? (mt k1).1 = some mk) (h30 : (mt k1).2.2.1 ≤ 30) (wc : Cond.code (mt k1).1 (mt k1).2.1 (mt k1).2.2.1 (mt k1).2.2.2 ∈ gt) (wi : Cond.initialized (mt k1).1.cls ∈ gt)
    (hstep : ∀ target, (∀ acts, Steps p.tables e below (doInvoke e ((T.setVm vm₁).setTop g1) acts mk (vs.map (q_tv ad)).toArray).1 target) → Steps p.tables e below (T.setTop g0) target) :
    ∃ (x : Addr) (T' : State) (L : List Loc), Stand p l e R s m args below meth c T' (locs ++ L) (cells + 1) (slots + 6) ∧ WJ D cy ad n σx T'.heap ∧ va_S A s.heap T'.heap (locs ++ L) ∧ s.heap.size ≤ x ∧ (∃ ce : Cell, T'.heap[x]? = some ce ∧ ce.vm = .none ∧ T'.vm.findClass (q_xn ex) = some ce.cls) ∧ ∀ target, Steps p.tables e below ((T'.setTop g1).pushFrame (.throwing x)) target → Steps p.tables e below (T.setTop g0) target := by
  have hw : ∀ w ∈ (Cond.code (mt k1).1 (mt k1).2.1 (mt k1).2.2.1 (mt k1).2.2.2 :: gt), w.before (vs.map (q_tv ad)).toArray (T.setVm vm₁) = true := fun w h => by
    have hg := gi_1 wc w h
    exact word_at X₁.warmed hg.2 (cx.2.2.2.2.1 w hg.1)
  have hkeep : ∀ q, q < s.heap.size → ¬ A q → (T.setVm vm₁).heap[q]? = s.heap[q]? := fun q h1 h2 => by
    show T.heap[q]? = _
    rw [hT]
    exact hS.2.1 q h1 h2
  have hz : s.heap.size ≤ (T.setVm vm₁).heap.size := by
    show _ ≤ T.heap.size
    rw [hT]
    exact hS.1
  have hTh1 : q_Th A (T.setVm vm₁) := hTh.go X₁.warmed hz hkeep
  obtain ⟨x, T', t, L, X', e1, e2, ⟨hw1, hf1, hx1, ce, hce, hcv, hcc⟩, hL, st⟩ := q_comeX X₁ (y := (mt k1).1) (bytes := (mt k1).2.1) (maxL := (mt k1).2.2.1) (ret := (mt k1).2.2.2) hg1 hsz hdg hW hM hn hrx.2.2.1 (by have := hrx.2.2.2; omega) hw List.mem_cons_self (word_at X₁.warmed (good_of_word (gt_good _ wi)) (cx.2.2.2.2.1 _ wi)) (by rw [hrx.1]; exact hc1) (by rw [hrx.2.1]; exact hs6)
    ⟨rfl, by show WJ D cy ad n σ T.heap; rw [hT]; exact hP, va_K.moved (u := s) X₁.warmed.alike cx.2.2.2.2.2.1, hTh1⟩
  have hf2 : T.heap.size ≤ t.heap.size := hf1.1
  rw [hT] at hf2
  refine ⟨x, T', L, X', by rw [e1]; exact hw1, ⟨by rw [e1]; exact Nat.le_trans hS.1 hf2, fun q h1 h2 => ?_, fun q hq => ?_⟩, ?_, ⟨ce, by rw [e1]; exact hce, hcv, by rw [e2]; exact hcc⟩, fun target h => hstep _ (fun acts => by rw [doInvoke_state]; exact st _ h)⟩
  · rw [e1, hf1.2 q (by show q < T.heap.size; rw [hT]; exact Nat.lt_of_lt_of_le h1 hS.1) h2]
    show T.heap[q]? = _
    rw [hT]
    exact hS.2.1 q h1 h2
  · rcases List.mem_append.mp hq with h | h
    · exact hS.2.2 q h
    · exact hL q h
  · have : T.heap.size ≤ x := hx1
    rw [hT] at this
    exact Nat.le_trans hS.1 this
theorem q_endX {T : State} {H : Heap} {vm₁ : Vm} {locs : List Loc} {g0 g1 : JFrame} {k1 : Nat} {vs : List PV} {σ : J} {mk : MethodId} {ig : Instr} {rmx : Room} (cx : q_Cx mt p s m meth c args k D cy n ad A R cells slots) (hTh : q_Th A s) (hnh : ∀ pc, ∀ x ∈ c.exceptionTable.toList, covers x pc = false) (hc1 : cells + 1 ≤ R.cells) (hs6 : slots + 6 ≤ R.slots) (hrx : rmx.cells = 1 ∧ rmx.slots = 6 ∧ rmx.frames + 1 ≤ R.frames ∧ 49 + rmx.locals ≤ R.locals)
    (hT : T.heap = H) (hP : WJ D cy ad n σ H) (hS : va_S A s.heap H locs) (X₁ : Stand p l e R s m args below meth c (T.setVm vm₁) locs cells slots) (hg1 : g1.method = m) (hsz : g1.locals.size = c.maxLocals) (hlk : g1.locked = none) (hen : g1.entered = []) (hdg : decode c.code g1.pc = .ok (ig, 3)) (hW : 2 * g1.monitorRoom + (g1.stack.map fun v => v.category).sum ≤ 8)
    (hM : q_CX l mt rmx D cy ad n A k1 vs σ ex σx) (hn : (T.setVm vm₁).methodNamed? (mt k1).1 = some mk) (h30 : (mt k1).2.2.1 ≤ 30) (wc : Cond.code (mt k1).1 (mt k1).2.1 (mt k1).2.2.1 (mt k1).2.2.2 ∈ gt) (wi : Cond.initialized (mt k1).1.cls ∈ gt)
    (hstep : ∀ target, (∀ acts, Steps p.tables e below (doInvoke e ((T.setVm vm₁).setTop g1) acts mk (vs.map (q_tv ad)).toArray).1 target) → Steps p.tables e below (T.setTop g0) target) : ∃ t, Steps p.tables e below (T.setTop g0) t ∧ q_MX below (q_QX D cy ad n A ex σx) s (cells + 1) (slots + 6) A t := by
  obtain ⟨x, T', L, X', hw1, hS', hx1, ⟨ce, hce, hcv, hcc⟩, st⟩ := q_toX cx hTh hc1 hs6 hrx hT hP hS X₁ hg1 hsz hdg hW hM hn h30 wc wi hstep
  obtain ⟨hwalk, hrun, hended, hWU, hsame⟩ := X'.leaveThrown x hg1 hlk hen (hnh g1.pc) cx.2.2.2.2.2.2.2.1
  exact ⟨_, st _ hwalk, x, hrun, hended, ⟨hw1, ⟨hS'.1, hS'.2.1⟩, hx1, ce, hce, hcv, hcc⟩, locs ++ L, ⟨hWU, hsame⟩, hS'.2.2⟩
theorem z_67x (cx : q_Cx mt p s m meth c args k D cy n ad A R cells slots) (hTh : q_Th A s) (htr : ∀ e, l.admits e → e.platform.stackTraces = false) (hnh : ∀ pc, ∀ x ∈ c.exceptionTable.toList, covers x pc = false) (hc1 : cells + 1 ≤ R.cells) (hs6 : slots + 6 ≤ R.slots)  (hg : ∀ pc L st σ, g pc L st σ = some (.inr ex, σx) → q_W mt p l e R s m args below meth c (q_MX below (q_QX D cy ad n A ex σx) s (cells + 1) (slots + 6) A) D cy ad n A k cells slots pc L st σ){rm : Room} (hrm : rm.cells = 0 ∧ rm.slots = 0 ∧ rm.frames + 1 ≤ R.frames ∧ 49 + rm.locals ≤ R.locals) (hcl : ∀ k1 vs τ v τ1, cal k1 vs τ = some (.inl v, τ1) → (vs.map q_cat).sum ≤ (mt k1).2.2.1 → q_oks n vs → q_CT l mt rm D cy ad n A k1 vs τ v τ1) {rmx : Room} (hrx : rmx.cells = 1 ∧ rmx.slots = 6 ∧ rmx.frames + 1 ≤ R.frames ∧ 49 + rmx.locals ≤ R.locals) (hcx : ∀ k1 vs τ ex τ1, cal k1 vs τ = some (.inr ex, τ1) → (vs.map q_cat).sum ≤ (mt k1).2.2.1 → q_oks n vs → q_CX l mt rmx D cy ad n A k1 vs τ ex τ1) (ho : q_okB mt k pc (67, ox, oa, ob, ol) = true) (h : q_stp n g cal pc (67, ox, oa, ob, ol) L st σ = some (.inr ex, σx)) : q_W mt p l e R s m args below meth c (q_MX below (q_QX D cy ad n A ex σx) s (cells + 1) (slots + 6) A) D cy ad n A k cells slots pc L st σ := by
  replace ho : (q_dc (mt k).2.1 pc (.invokevirtual oa) 3 && q_wd (ol.getD 3 0) (.methodLink (mt k).1.cls oa (mt ob).1) && q_wd (ol.getD 4 0) (.instanceMethod (mt ob).1) && q_wd (ol.getD 5 0) (.selects (q_cl (ol.getD 1 0)).1 (mt ob).1 (mt ob).1) && q_wd (ol.getD 6 0) (.initialized (q_cl (ol.getD 1 0)).1) && q_wd (ol.getD 7 0) (.code (mt ob).1 (mt ob).2.1 (mt ob).2.2.1 (mt ob).2.2.2) && q_ny (mt ob).1 (q_cl (ol.getD 1 0)).1 (ol.getD 0 0) && Nat.ble (mt ob).2.2.1 30 && Nat.ble (ol.getD 2 0 + 1) (mt ob).2.2.1) = true := ho
  simp only [Bool.and_eq_true] at ho
  obtain ⟨⟨⟨⟨⟨⟨⟨⟨o1, o2⟩, o3⟩, o4⟩, o5⟩, o6⟩, o7⟩, o8⟩, o9⟩ := ho
  replace h : ((q_pop (ol.getD 0 0) st).bind fun a => (q_pR a.2).bind fun q => (q_ko q.1.1).bind fun w => bif Nat.beq w.1 (ol.getD 1 0) && (q_rm q.2 && Nat.beq ((a.1.map q_cat).sum) (ol.getD 2 0)) then (cal ob (.inr (.inr (some q.1)) :: a.1) σ).bind (q_af n (fun st' σ' => g (pc + 3) L st' σ') q.2) else none) = some (.inr ex, σx) := h
  obtain ⟨a, e_a, h⟩ := Option.bind_eq_some_iff.mp h
  obtain ⟨q, e_q, h⟩ := Option.bind_eq_some_iff.mp h
  obtain ⟨w, e_w, h⟩ := Option.bind_eq_some_iff.mp h
  obtain ⟨hb, h⟩ := q_bf h
  obtain ⟨z, e_z, h⟩ := Option.bind_eq_some_iff.mp h
  simp only [Bool.and_eq_true] at hb
  rcases q_af_or h with ⟨v, σ1, rfl, hv, h⟩ | ⟨ex', σ1, rfl, hr⟩
  · exact c_67 cx hg hrm hcl o1 o2 o3 o4 o5 o6 o7 o8 o9 e_a e_q e_w hb e_z hv h
  cases hr
  obtain ⟨e1, e2⟩ := q_pop_s _ e_a
  rw [q_pR_s e_q] at e1
  have hci := Nat.eq_of_beq_eq_true hb.1
  have hwd := Nat.eq_of_beq_eq_true hb.2.2
  rw [← hci] at o4 o5 o7
  have hc := q_kB_at e_w
  have hny := of_decide_eq_true o7
  intro H locs ls hP hS hl hL hst
  have hst2 := q_oks_iff.mp hst
  rw [e1] at hst2
  have hq : q_ok n (.inr (.inr (some q.1))) = true := hst2 _ (by simp)
  have hi : (q.1.1, q.1.2) ∈ idj n := q_ok_in hq (q_ko_ne e_w)
  obtain ⟨t, ht0, ht⟩ := wl_at (ad := ad) (cn := cj cy ad n σ) hi
  rw [cj_o e_w] at ht
  have hM := hcx _ _ _ _ _ e_z (by
    have h9 := Nat.le_of_ble_eq_true o9
    show 1 + (a.1.map q_cat).sum ≤ _
    omega) (q_oks_iff.mpr fun x hx => by
    rcases List.mem_cons.mp hx with rfl | hx
    · exact hq
    · exact hst2 x (by simp [hx]))
  have hro : ((q.2.map (q_tv ad)).map fun v => v.category).sum ≤ 8 := by
    rw [q_cats]
    exact Nat.le_of_ble_eq_true hb.2.1
  intro T hT X
  obtain ⟨mk, methM, hnamed, hmethM, hstM, habM⟩ := Cond.instanceMethod_spec (cx.2.2.2.2.1 _ (q_wd_in o3))
  obtain ⟨methM', cM, hmethM', -, -, -, -, -, -, hsigM⟩ := Cond.code_spec hnamed (cx.2.2.2.2.1 _ (q_wd_in o6))
  cases hmethM.symm.trans hmethM'
  obtain ⟨c2, r2, m2, s1, s2, s3, s4, kP, hkP, hkPi⟩ := Cond.selects_spec (cx.2.2.2.2.1 _ (q_wd_in o4))
  obtain ⟨cellB, b1, b2, b3⟩ := va_recv cx.2.2.2.2.2.1 hP (q_cl_at hc.1) ht
  cases b3.symm.trans s1
  cases (State.methodFound?_of_named hnamed ⟨hny.2.1, hny.2.2.1⟩).symm.trans s2
  cases hnamed.symm.trans s3
  have hsel : selectMethod e.platform s.vm cellB.cls mk = .method mk := by rw [Launch.admits_selectMethod X.admits]; exact s4
  have hlen : (a.1.map (q_tv ad)).length = methM.sig.parameters.length := by
    have h2 := hny.2.2.2
    rw [hsigM] at h2
    rw [List.length_map, e2]
    exact (Option.some.inj h2).symm
  obtain ⟨vm₁, X₁, hstep⟩ := X.invokevirtual cx.1 cx.2.2.2.1 (cx.2.2.2.2.1 _ (q_wd_in o2)) hnamed hmethM hstM hkP hkPi ⟨hny.2.1, hny.2.2.1⟩ (a := ad q.1.1 q.1.2) (cell := cellB) (by rw [hT]; exact b1) (fun z h => by rw [h] at b2; cases b2) hsel hmethM habM hkP hkPi (g := F0 m pc ls (st.map (q_tv ad))) rfl (argsL := a.1.map (q_tv ad)) (rest := q.2.map (q_tv ad)) hlen
    (by show st.map (q_tv ad) = _; rw [e1, List.map_append, List.map_reverse]; rfl) (by rw [cx.2.1]; exact q_dd o1)
  have wi : Cond.initialized (mt ob).1.cls ∈ gt := by rw [hny.1]; exact q_wd_in o5
  exact q_endX (g1 := { F0 m pc ls (st.map (q_tv ad)) with stack := q.2.map (q_tv ad) }) (ig := .invokevirtual oa) cx hTh hnh hc1 hs6 hrx hT hP hS X₁ rfl (by rw [cx.2.2.1]; exact hl.1) rfl rfl (by rw [cx.2.1]; exact q_dd o1) (lv_room (m := m) (pc := pc) (ls := ls) (rest := q.2.map (q_tv ad)) hro) hM (X₁.named hnamed) (Nat.le_of_ble_eq_true o8) (q_wd_in o6) wi hstep
theorem z_68x (cx : q_Cx mt p s m meth c args k D cy n ad A R cells slots) (hTh : q_Th A s) (htr : ∀ e, l.admits e → e.platform.stackTraces = false) (hnh : ∀ pc, ∀ x ∈ c.exceptionTable.toList, covers x pc = false) (hc1 : cells + 1 ≤ R.cells) (hs6 : slots + 6 ≤ R.slots)  (hg : ∀ pc L st σ, g pc L st σ = some (.inr ex, σx) → q_W mt p l e R s m args below meth c (q_MX below (q_QX D cy ad n A ex σx) s (cells + 1) (slots + 6) A) D cy ad n A k cells slots pc L st σ){rm : Room} (hrm : rm.cells = 0 ∧ rm.slots = 0 ∧ rm.frames + 1 ≤ R.frames ∧ 49 + rm.locals ≤ R.locals) (hcl : ∀ k1 vs τ v τ1, cal k1 vs τ = some (.inl v, τ1) → (vs.map q_cat).sum ≤ (mt k1).2.2.1 → q_oks n vs → q_CT l mt rm D cy ad n A k1 vs τ v τ1) {rmx : Room} (hrx : rmx.cells = 1 ∧ rmx.slots = 6 ∧ rmx.frames + 1 ≤ R.frames ∧ 49 + rmx.locals ≤ R.locals) (hcx : ∀ k1 vs τ ex τ1, cal k1 vs τ = some (.inr ex, τ1) → (vs.map q_cat).sum ≤ (mt k1).2.2.1 → q_oks n vs → q_CX l mt rmx D cy ad n A k1 vs τ ex τ1) (ho : q_okB mt k pc (68, ox, oa, ob, ol) = true) (h : q_stp n g cal pc (68, ox, oa, ob, ol) L st σ = some (.inr ex, σx)) : q_W mt p l e R s m args below meth c (q_MX below (q_QX D cy ad n A ex σx) s (cells + 1) (slots + 6) A) D cy ad n A k cells slots pc L st σ := by
  replace ho : (q_dc (mt k).2.1 pc (.invokestatic oa) 3 && q_wd (ol.getD 3 0) (.methodLink (mt k).1.cls oa (mt ob).1) && q_wd (ol.getD 4 0) (.static (mt ob).1) && q_wd (ol.getD 6 0) (.initialized (mt ob).1.cls) && q_wd (ol.getD 7 0) (.code (mt ob).1 (mt ob).2.1 (mt ob).2.2.1 (mt ob).2.2.2) && q_ny (mt ob).1 (mt ob).1.cls (ol.getD 0 0) && Nat.ble (mt ob).2.2.1 30 && Nat.ble (ol.getD 2 0) (mt ob).2.2.1) = true := ho
  simp only [Bool.and_eq_true] at ho
  obtain ⟨⟨⟨⟨⟨⟨⟨o1, o2⟩, o3⟩, o5⟩, o6⟩, o7⟩, o8⟩, o9⟩ := ho
  replace h : ((q_pop (ol.getD 0 0) st).bind fun a => bif q_rm a.2 && Nat.beq ((a.1.map q_cat).sum) (ol.getD 2 0) then (cal ob a.1 σ).bind (q_af n (fun st' σ' => g (pc + 3) L st' σ') a.2) else none) = some (.inr ex, σx) := h
  obtain ⟨a, e_a, h⟩ := Option.bind_eq_some_iff.mp h
  obtain ⟨hb, h⟩ := q_bf h
  obtain ⟨z, e_z, h⟩ := Option.bind_eq_some_iff.mp h
  simp only [Bool.and_eq_true] at hb
  rcases q_af_or h with ⟨v, σ1, rfl, hv, h⟩ | ⟨ex', σ1, rfl, hr⟩
  · exact c_68 cx hg hrm hcl o1 o2 o3 o5 o6 o7 o8 o9 e_a hb e_z hv h
  cases hr
  obtain ⟨e1, e2⟩ := q_pop_s _ e_a
  have hwd := Nat.eq_of_beq_eq_true hb.2
  have hny := of_decide_eq_true o7
  intro H locs ls hP hS hl hL hst
  have hst2 := q_oks_iff.mp hst
  rw [e1] at hst2
  have hM := hcx _ _ _ _ _ e_z (by
    have h9 := Nat.le_of_ble_eq_true o9
    omega) (q_oks_iff.mpr fun x hx => hst2 x (by simp [hx]))
  have hro : ((a.2.map (q_tv ad)).map fun v => v.category).sum ≤ 8 := by
    rw [q_cats]
    exact Nat.le_of_ble_eq_true hb.1
  intro T hT X
  have hcode := cx.2.2.2.2.1 _ (q_wd_in o6)
  obtain ⟨mk, hnamed⟩ := Cond.code_named hcode
  obtain ⟨methM, cM, hmethM, -, -, -, -, -, -, hsigM⟩ := Cond.code_spec hnamed hcode
  have hstatic : methM.isStatic = true := Cond.static_spec hnamed hmethM (cx.2.2.2.2.1 _ (q_wd_in o3))
  obtain ⟨kP, hkP, -⟩ := className_of_methodNamed hnamed
  have hinitP : kP.init = .initialized := Cond.initialized_spec (findClass_of_methodNamed hnamed) hkP (cx.2.2.2.2.1 _ (q_wd_in o5))
  have hlen : (a.1.map (q_tv ad)).length = methM.sig.parameters.length := by
    have h2 := hny.2.2.2
    rw [hsigM] at h2
    rw [List.length_map, e2]
    exact (Option.some.inj h2).symm
  obtain ⟨vm₁, X₁, hstep⟩ := X.invokestatic cx.1 cx.2.2.2.1 (cx.2.2.2.2.1 _ (q_wd_in o2)) hnamed hmethM hstatic hkP hinitP ⟨hny.2.1, hny.2.2.1⟩ (g := F0 m pc ls (st.map (q_tv ad))) rfl (argsL := a.1.map (q_tv ad)) (rest := a.2.map (q_tv ad)) hlen
    (by show st.map (q_tv ad) = _; rw [e1, List.map_append, List.map_reverse]) (by rw [cx.2.1]; exact q_dd o1)
  exact q_endX (g1 := { F0 m pc ls (st.map (q_tv ad)) with stack := a.2.map (q_tv ad) }) (ig := .invokestatic oa) cx hTh hnh hc1 hs6 hrx hT hP hS X₁ rfl (by rw [cx.2.2.1]; exact hl.1) rfl rfl (by rw [cx.2.1]; exact q_dd o1) (lv_room (m := m) (pc := pc) (ls := ls) (rest := a.2.map (q_tv ad)) hro) hM (X₁.named hnamed) (Nat.le_of_ble_eq_true o8) (q_wd_in o6) (q_wd_in o5) hstep
theorem z_77x (cx : q_Cx mt p s m meth c args k D cy n ad A R cells slots) (hTh : q_Th A s) (htr : ∀ e, l.admits e → e.platform.stackTraces = false) (hnh : ∀ pc, ∀ x ∈ c.exceptionTable.toList, covers x pc = false) (hc1 : cells + 1 ≤ R.cells) (hs6 : slots + 6 ≤ R.slots)  (hg : ∀ pc L st σ, g pc L st σ = some (.inr ex, σx) → q_W mt p l e R s m args below meth c (q_MX below (q_QX D cy ad n A ex σx) s (cells + 1) (slots + 6) A) D cy ad n A k cells slots pc L st σ)(hfr : 6 ≤ R.frames) (hlo : 90 ≤ R.locals) (ho : q_okB mt k pc (77, ox, oa, ob, ol) = true) (h : q_stp n g cal pc (77, ox, oa, ob, ol) L st σ = some (.inr ex, σx)) : q_W mt p l e R s m args below meth c (q_MX below (q_QX D cy ad n A ex σx) s (cells + 1) (slots + 6) A) D cy ad n A k cells slots pc L st σ := by
  replace ho : (decide ((mt k).1.cls = "JobBoard") && q_dc (mt k).2.1 pc (.new (q_xc oa)) 3 && q_dc (mt k).2.1 (pc + 3) .dup 1 && q_dc (mt k).2.1 (pc + 4) (.invokespecial (q_xi oa)) 3 && q_dc (mt k).2.1 (pc + 7) .athrow 1 && Nat.ble 1 oa && Nat.ble oa 4) = true := ho
  simp only [Bool.and_eq_true] at ho
  obtain ⟨⟨⟨⟨⟨⟨o1, o2⟩, o3⟩, o4⟩, o5⟩, o6⟩, o7⟩ := ho
  cases st with
  | cons _ _ =>
    replace h : none = some (Sum.inr ex, σx) := h
    cases h
  | nil =>
    replace h : some (Sum.inr oa, σ) = some (Sum.inr ex, σx) := h
    cases h
    intro H locs ls hP hS hl hL hst
    have h1 := Nat.le_of_ble_eq_true o6
    have h4 := Nat.le_of_ble_eq_true o7
    have h3 := q_x3_in oa h1 h4
    exact q_thr cx hTh htr h1 h4 (of_decide_eq_true o1) (h3 _ (by simp [q_x3])) (h3 _ (by simp [q_x3])) (h3 _ (by simp [q_x3])) (q_dd o2) (q_dd o3) (q_dd o4) (q_dd o5) (hnh _) hc1 hs6 hfr hlo hP hS hl.1
theorem q_allX {ci : Nat} (cx : q_Cx mt p s m meth c args k D cy n ad A R cells slots) (hTh : q_Th A s) (htr : ∀ e, l.admits e → e.platform.stackTraces = false) (hnh : ∀ pc, ∀ x ∈ c.exceptionTable.toList, covers x pc = false) (hc1 : cells + 1 ≤ R.cells) (hs6 : slots + 6 ≤ R.slots) (hg : ∀ pc L st σ, g pc L st σ = some (.inr ex, σx) → q_W mt p l e R s m args below meth c (q_MX below (q_QX D cy ad n A ex σx) s (cells + 1) (slots + 6) A) D cy ad n A k cells slots pc L st σ) {rm : Room} (hrm : rm.cells = 0 ∧ rm.slots = 0 ∧ rm.frames + 1 ≤ R.frames ∧ 49 + rm.locals ≤ R.locals) (hcl : ∀ k1 vs τ v τ1, cal k1 vs τ = some (.inl v, τ1) → (vs.map q_cat).sum ≤ (mt k1).2.2.1 → q_oks n vs → q_CT l mt rm D cy ad n A k1 vs τ v τ1) {rmx : Room} (hrx : rmx.cells = 1 ∧ rmx.slots = 6 ∧ rmx.frames + 1 ≤ R.frames ∧ 49 + rmx.locals ≤ R.locals) (hcx : ∀ k1 vs τ ex τ1, cal k1 vs τ = some (.inr ex, τ1) → (vs.map q_cat).sum ≤ (mt k1).2.2.1 → q_oks n vs → q_CX l mt rmx D cy ad n A k1 vs τ ex τ1) (hfr : 6 ≤ R.frames) (hlo : 90 ≤ R.locals) (ho : q_okB mt k pc (ci, ox, oa, ob, ol) = true) (h : q_stp n g cal pc (ci, ox, oa, ob, ol) L st σ = some (.inr ex, σx)) : q_W mt p l e R s m args below meth c (q_MX below (q_QX D cy ad n A ex σx) s (cells + 1) (slots + 6) A) D cy ad n A k cells slots pc L st σ := by
  by_cases hbig : 77 < ci ∨ ci = 5
  · rw [q_big hbig] at h
    cases h
  have hlt : ci < 78 := by omega
  match ci, hlt, ho, h with
  | 0, _, ho, h => exact z_0 cx hg ho h
  | 1, _, ho, h => exact z_1 cx hg ho h
  | 2, _, ho, h => exact z_2 cx hg ho h
  | 3, _, ho, h => exact z_3 cx hg ho h
  | 4, _, ho, h => exact z_4 cx hg ho h
  | 6, _, ho, h => exact z_6 cx hg ho h
  | 7, _, ho, h => exact z_7 cx hg ho h
  | 8, _, ho, h => exact z_8 cx hg ho h
  | 9, _, ho, h => exact z_9 cx hg ho h
  | 10, _, ho, h => exact z_10 cx hg ho h
  | 11, _, ho, h => exact z_11 cx hg ho h
  | 12, _, ho, h => exact z_12 cx hg ho h
  | 13, _, ho, h => exact z_13 cx hg ho h
  | 14, _, ho, h => exact z_14 cx hg ho h
  | 15, _, ho, h => exact z_15 cx hg ho h
  | 16, _, ho, h => exact z_16 cx hg ho h
  | 17, _, ho, h => exact z_17 cx hg ho h
  | 18, _, ho, h => exact z_18 cx hg ho h
  | 19, _, ho, h => exact z_19 cx hg ho h
  | 20, _, ho, h => exact z_20 cx hg ho h
  | 21, _, ho, h => exact z_21 cx hg ho h
  | 22, _, ho, h => exact z_22 cx hg ho h
  | 23, _, ho, h => exact z_23 cx hg ho h
  | 24, _, ho, h => exact z_24 cx hg ho h
  | 25, _, ho, h => exact z_25 cx hg ho h
  | 26, _, ho, h => exact z_26 cx hg ho h
  | 27, _, ho, h => exact z_27 cx hg ho h
  | 28, _, ho, h => exact z_28 cx hg ho h
  | 29, _, ho, h => exact z_29 cx hg ho h
  | 30, _, ho, h => exact z_30 cx hg ho h
  | 31, _, ho, h => exact z_31 cx hg ho h
  | 32, _, ho, h => exact z_32 cx hg ho h
  | 33, _, ho, h => exact z_33 cx hg ho h
  | 34, _, ho, h => exact z_34 cx hg ho h
  | 35, _, ho, h => exact z_35 cx hg ho h
  | 36, _, ho, h => exact z_36 cx hg ho h
  | 37, _, ho, h => exact z_37 cx hg ho h
  | 38, _, ho, h => exact z_38 cx hg ho h
  | 39, _, ho, h => exact z_39 cx hg ho h
  | 40, _, ho, h => exact z_40 cx hg ho h
  | 41, _, ho, h => exact z_41 cx hg ho h
  | 42, _, ho, h => exact z_42 cx hg ho h
  | 43, _, ho, h => exact z_43 cx hg ho h
  | 44, _, ho, h => exact z_44 cx hg ho h
  | 45, _, ho, h => exact z_45 cx hg ho h
  | 46, _, ho, h => exact z_46 cx hg ho h
  | 47, _, ho, h => exact z_47 cx hg ho h
  | 48, _, ho, h => exact z_48 cx hg ho h
  | 49, _, ho, h => exact z_49 cx hg ho h
  | 50, _, ho, h => exact z_50 cx hg ho h
  | 51, _, ho, h => exact z_51 cx hg ho h
  | 52, _, ho, h => exact z_52 cx hg ho h
  | 53, _, ho, h => exact z_53 cx hg ho h
  | 54, _, ho, h => exact z_54 cx hg ho h
  | 55, _, ho, h => exact z_55 cx hg ho h
  | 56, _, ho, h => exact z_56 cx hg ho h
  | 57, _, ho, h => exact z_57 cx hg ho h
  | 58, _, ho, h => exact z_58 cx hg ho h
  | 59, _, ho, h => exact z_59 cx hg ho h
  | 60, _, ho, h => exact z_60 cx hg ho h
  | 61, _, ho, h => exact z_61 cx hg ho h
  | 62, _, ho, h => exact z_62 cx hg ho h
  | 63, _, ho, h => exact z_63 cx hg ho h
  | 64, _, ho, h => exact z_64 cx hg ho h
  | 65, _, ho, h => exact z_65 cx hg ho h
  | 66, _, ho, h => exact z_66 cx hg ho h
  | 67, _, ho, h => exact z_67x cx hTh htr hnh hc1 hs6 hg hrm hcl hrx hcx ho h
  | 68, _, ho, h => exact z_68x cx hTh htr hnh hc1 hs6 hg hrm hcl hrx hcx ho h
  | 69, _, ho, h => exact z_69 cx hg ho h
  | 70, _, ho, h => exact z_70 cx hg ho h
  | 71, _, ho, h => exact z_71 cx hg ho h
  | 72, _, ho, h =>
    obtain ⟨⟨x1, x2⟩, e_x, h⟩ := Option.bind_eq_some_iff.mp (show ((q_pI st).bind fun x => match x.2 with
      | [] => (some (Sum.inl (some (.inl x.1)), σ) : Option Res)
      | _ :: _ => none) = some (Sum.inr ex, σx) from h)
    cases x2 with
    | cons _ _ =>
      replace h : none = some (Sum.inr ex, σx) := h
      cases h
    | nil =>
      replace h : ((some (Sum.inl (some (.inl x1)), σ) : Option Res)) = some (Sum.inr ex, σx) := h
      cases h
  | 73, _, ho, h =>
    obtain ⟨⟨x1, x2⟩, e_x, h⟩ := Option.bind_eq_some_iff.mp (show ((q_pI st).bind fun x => match x.2 with
      | [] => (if x.1 &&& 1 = x.1 then some (Sum.inl (some (.inl x.1)), σ) else none : Option Res)
      | _ :: _ => none) = some (Sum.inr ex, σx) from h)
    cases x2 with
    | cons _ _ =>
      replace h : none = some (Sum.inr ex, σx) := h
      cases h
    | nil =>
      replace h : ((if x1 &&& 1 = x1 then some (Sum.inl (some (.inl x1)), σ) else none : Option Res)) = some (Sum.inr ex, σx) := h
      by_cases hz : x1 &&& 1 = x1
      · rw [if_pos hz] at h
        cases h
      · rw [if_neg hz] at h
        cases h
  | 74, _, ho, h =>
    obtain ⟨⟨x1, x2⟩, e_x, h⟩ := Option.bind_eq_some_iff.mp (show ((q_pL st).bind fun x => match x.2 with
      | [] => (some (Sum.inl (some (.inr (.inl x.1))), σ) : Option Res)
      | _ :: _ => none) = some (Sum.inr ex, σx) from h)
    cases x2 with
    | cons _ _ =>
      replace h : none = some (Sum.inr ex, σx) := h
      cases h
    | nil =>
      replace h : ((some (Sum.inl (some (.inr (.inl x1))), σ) : Option Res)) = some (Sum.inr ex, σx) := h
      cases h
  | 75, _, ho, h =>
    obtain ⟨⟨x1, x2⟩, e_x, h⟩ := Option.bind_eq_some_iff.mp (show ((q_pN st).bind fun x => match x.2 with
      | [] => (some (Sum.inl (some (.inr (.inr x.1))), σ) : Option Res)
      | _ :: _ => none) = some (Sum.inr ex, σx) from h)
    cases x2 with
    | cons _ _ =>
      replace h : none = some (Sum.inr ex, σx) := h
      cases h
    | nil =>
      replace h : ((some (Sum.inl (some (.inr (.inr x1))), σ) : Option Res)) = some (Sum.inr ex, σx) := h
      cases h
  | 76, _, ho, h =>
    cases st with
    | cons _ _ =>
      replace h : none = some (Sum.inr ex, σx) := h
      cases h
    | nil =>
      replace h : some (Sum.inl none, σ) = some (Sum.inr ex, σx) := h
      cases h
  | 5, _, ho, h => exact absurd (Or.inr rfl) hbig
  | 77, _, ho, h => exact z_77x cx hTh htr hnh hc1 hs6 hg hfr hlo ho h
  | _ + 78, hl, _, _ => omega
end SNX
def q_rmx (d : Nat) : Room := { frames := d + 6, cells := 1, slots := 6, locals := 49 * d + 100 }
section RUNX
variable {pr : Nat → Nat → Option Op} {mt : Nat → MRow} {n : Nat} {l : Launch} {D : va_G} {cy : Nat → ClassId} {ad : Nat → Nat → Nat} {A : Nat → Prop}
theorem q_frameX (hI : ∀ cn, va_D A (wl (idj n) ad cn)) (hpr : ∀ k pc o, pr k pc = some o → q_okB mt k pc o = true) (hpl : ∀ k, plainName (mt k).1.cls = true) (htr : ∀ e, l.admits e → e.platform.stackTraces = false) (d : Nat)
    (hd : ∀ d', d = d' + 1 → ∀ (f k : Nat) (vs : List PV) (σ : J) (ex : Nat) (σ1 : J), q_run pr n d' f k 0 (q_args 0 vs) [] σ = some (.inr ex, σ1) → (vs.map q_cat).sum ≤ (mt k).2.2.1 → q_oks n vs → q_CX l mt (q_rmx d') D cy ad n A k vs σ ex σ1)
    {p : Program} {e : Env} {R : Room} {s : State} {m : MethodId} {args : Array Value} {below : List Frame} {meth : Method} {c : Code} {k cells slots : Nat} (cx : q_Cx mt p s m meth c args k D cy n ad A R cells slots) (hTh : q_Th A s) (hnh : ∀ pc, ∀ x ∈ c.exceptionTable.toList, covers x pc = false) (hc1 : cells + 1 ≤ R.cells) (hs6 : slots + 6 ≤ R.slots) (hfr : d + 6 ≤ R.frames) (hlo : 49 * d + 100 ≤ R.locals) {ex : Nat} {σ1 : J} :
    ∀ (f pc : Nat) (L : PL) (st : List PV) (σ : J), q_run pr n d f k pc L st σ = some (.inr ex, σ1) → q_W mt p l e R s m args below meth c (q_MX below (q_QX D cy ad n A ex σ1) s (cells + 1) (slots + 6) A) D cy ad n A k cells slots pc L st σ := by
  intro f
  induction f with
  | zero => intro pc L st σ h; cases h
  | succ f ih =>
    intro pc L st σ h
    unfold q_run at h
    cases ho : pr k pc with
    | none => rw [ho] at h; cases h
    | some o =>
      rw [ho] at h
      obtain ⟨ci, ox, oa, ob, ol⟩ := o
      have hok := hpr k pc _ ho
      cases d with
      | zero => exact q_allX (rm := { frames := 0, cells := 0, slots := 0, locals := 0 }) (rmx := { frames := 0, cells := 1, slots := 6, locals := 0 }) cx hTh htr hnh hc1 hs6 ih ⟨rfl, rfl, by show 0 + 1 ≤ _; omega, by show 49 + 0 ≤ _; omega⟩ (fun _ _ _ _ _ hz => by cases hz) ⟨rfl, rfl, by show 0 + 1 ≤ _; omega, by show 49 + 0 ≤ _; omega⟩ (fun _ _ _ _ _ hz => by cases hz) (by omega) (by omega) hok h
      | succ d' => exact q_allX (rm := q_rmd d') (rmx := q_rmx d') cx hTh htr hnh hc1 hs6 ih ⟨rfl, rfl, by show d' + 1 + 1 ≤ _; omega, by show 49 + (49 * d' + 60) ≤ _; omega⟩ (fun k1 vs τ v τ1 hz => q_met hI hpr hpl d' f k1 vs τ v τ1 hz) ⟨rfl, rfl, by show d' + 6 + 1 ≤ _; omega, by show 49 + (49 * d' + 100) ≤ _; omega⟩ (fun k1 vs τ ex τ1 hz => hd d' rfl f k1 vs τ ex τ1 hz) (by omega) (by omega) hok h
theorem q_metX1 (hI : ∀ cn, va_D A (wl (idj n) ad cn)) (hpr : ∀ k pc o, pr k pc = some o → q_okB mt k pc o = true) (hpl : ∀ k, plainName (mt k).1.cls = true) (htr : ∀ e, l.admits e → e.platform.stackTraces = false) (d : Nat)
    (hd : ∀ d', d = d' + 1 → ∀ (f k : Nat) (vs : List PV) (σ : J) (ex : Nat) (σ1 : J), q_run pr n d' f k 0 (q_args 0 vs) [] σ = some (.inr ex, σ1) → (vs.map q_cat).sum ≤ (mt k).2.2.1 → q_oks n vs → q_CX l mt (q_rmx d') D cy ad n A k vs σ ex σ1)
    (f k : Nat) (vs : List PV) (σ : J) (ex : Nat) (σ1 : J) (h : q_run pr n d f k 0 (q_args 0 vs) [] σ = some (.inr ex, σ1)) (hw : (vs.map q_cat).sum ≤ (mt k).2.2.1) (hk : q_oks n vs) : q_CX l mt (q_rmx d) D cy ad n A k vs σ ex σ1 := by
  refine q_Mx.ofW (cc := (mt k).2.1) (maxL := (mt k).2.2.1) (ret := (mt k).2.2.2) (hpl k) rfl ?_
  intro p e s m args below meth c s₁ B hml hv
  obtain ⟨rfl, hP, hK, hTh⟩ := hv
  rw [lg_entry_eq]
  have hpre := atoms_spec (ws := Cond.code (mt k).1 (mt k).2.1 (mt k).2.2.1 (mt k).2.2.2 :: gt) B.pre
  have cx : q_Cx mt p s m meth c (vs.map (q_tv ad)).toArray k D cy n ad A (q_rmx d) 0 0 := ⟨B.exec, B.bytes, hml, findClass_of_methodNamed B.named, fun w h => hpre w (List.mem_cons_of_mem _ h), hK, B.returns, B.notSynchronized, hI, by show 1 ≤ d + 6; omega, by show 40 ≤ 49 * d + 100; omega, Nat.zero_le _, Nat.zero_le _⟩
  have he := lv_entry (vs.map (q_tv ad)) (n := (mt k).2.2.1) (by rw [q_sl_len, q_cats]; exact hw)
  have hnh : ∀ pc, ∀ x ∈ c.exceptionTable.toList, covers x pc = false := by
    intro pc x hx
    have h0 := B.noHandlers (hpre _ List.mem_cons_self)
    rw [Array.isEmpty_iff.mp h0] at hx
    cases hx
  exact q_frameX hI hpr hpl htr d hd cx hTh hnh (Nat.le_refl _) (Nat.le_refl _) (Nat.le_refl _) (Nat.le_refl _) f 0 (q_args 0 vs) [] σ h s.heap [] _ hP va_S.rf (q_args_has he) (fun b w hb => q_oks_iff.mp hk _ (q_args_in (ad := ad) hb).1) trivial
/-- every run of the interpreter that ends in an exception is a contract of the machine that throws it -/
theorem q_metX (hI : ∀ cn, va_D A (wl (idj n) ad cn)) (hpr : ∀ k pc o, pr k pc = some o → q_okB mt k pc o = true) (hpl : ∀ k, plainName (mt k).1.cls = true) (htr : ∀ e, l.admits e → e.platform.stackTraces = false) :
    ∀ (d f k : Nat) (vs : List PV) (σ : J) (ex : Nat) (σ1 : J), q_run pr n d f k 0 (q_args 0 vs) [] σ = some (.inr ex, σ1) → (vs.map q_cat).sum ≤ (mt k).2.2.1 → q_oks n vs → q_CX l mt (q_rmx d) D cy ad n A k vs σ ex σ1 := by
  intro d
  induction d with
  | zero => exact q_metX1 hI hpr hpl htr 0 (fun d' h => by omega)
  | succ d ih => exact q_metX1 hI hpr hpl htr (d + 1) (fun d' h => by
      obtain rfl : d = d' := by omega
      exact ih)
end RUNX

