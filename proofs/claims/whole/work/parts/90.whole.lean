/-! What the tables and the start say, in the forms that the walk asks for; and the claim. Ours. -/
section FIN
variable {s : State} {args : Array Value}
theorem f_hts {w : Cond} (hts : ∀ w ∈ lw_tbl, w.before args s = true) (h : decide (w ∈ lw_tbl) = true) : w.before args s = true := hts w (of_decide_eq_true h)
/-- the classes and their fields -/
theorem f_cls (hts : ∀ w ∈ lw_tbl, w.before args s = true) : ∀ c : Nat, ∃ (cC : ClassId) (iS : Nat → Nat), ∀ q : vw_C, vcl[c]? = some q → u_Kn s q.1 q.2.1 q.2.2 cC iS := by
  have hall : (vcl.all fun q => ((u_ws q.1 q.2.1 q.2.2).all fun w => decide (w ∈ lw_tbl)) && decide (Cond.instantiable q.1 q.2.2 ∈ lw_tbl)) = true := by decide +kernel
  intro c
  cases h : vcl[c]? with
  | none => exact ⟨default, fun _ => 0, fun q hq => by cases hq⟩
  | some q =>
    have h1 := List.all_eq_true.mp hall q (List.mem_of_getElem? h)
    rw [Bool.and_eq_true] at h1
    obtain ⟨cC, iS, hK⟩ := u_known (C := q.1) (T := q.2.1) (N := q.2.2) (n := q.2.2) hts (fun w hw => of_decide_eq_true (List.all_eq_true.mp h1.1 w hw)) (hts _ (of_decide_eq_true h1.2))
    exact ⟨cC, iS, fun q' hq' => by cases hq'; exact hK⟩
theorem f_prim (hts : ∀ w ∈ lw_tbl, w.before args s = true) {t : FieldType} (h : decide (Cond.arrayClass t ∈ lw_tbl) = true) (ht : ∀ cA, va_RA s cA t = (s.vm.findClass ("[" ++ t.toString) = some cA)) : ∃ cA : ClassId, ArrOfT s cA t ∧ va_RA s cA t := by
  obtain ⟨c, k, comp, h1, h2, h3⟩ := Cond.arrayClass_spec (f_hts hts h)
  exact ⟨c, fun n z => ⟨fun k h => (by cases h), k, h2, comp, h3⟩, by rw [ht]; exact h1⟩
theorem f_obj (hts : ∀ w ∈ lw_tbl, w.before args s = true) {C : String} (h : decide (Cond.arrayOver (.object C) ∈ lw_tbl) = true) : ∃ cA : ClassId, ArrOfT s cA (.object C) ∧ va_RA s cA (.object C) := by
  obtain ⟨comp, c, k, h1, -, h3, h4, h5⟩ := Cond.arrayOver_spec (f_hts hts h)
  exact ⟨c, fun n z => ⟨fun k h => (by cases h), k, h3, comp, h4⟩, k, comp, h3, h4, h1, h5⟩
theorem f_K (hts : ∀ w ∈ lw_tbl, w.before args s = true) : ∃ (D : va_G) (cy : Nat → ClassId), va_K D vcl (q_ty cy) s := by
  have hc := f_cls hts
  obtain ⟨c0, p0⟩ := f_prim (t := .int) hts (by decide +kernel) (fun _ => rfl)
  obtain ⟨c1, p1⟩ := f_prim (t := .long) hts (by decide +kernel) (fun _ => rfl)
  obtain ⟨c2, p2⟩ := f_prim (t := .boolean) hts (by decide +kernel) (fun _ => rfl)
  obtain ⟨c3, p3⟩ := f_obj (C := "JobBoard$Session") hts (by decide +kernel)
  obtain ⟨c4, p4⟩ := f_obj (C := "JobBoard$Tuple") hts (by decide +kernel)
  obtain ⟨c5, p5⟩ := f_obj (C := "JobBoard$Pattern") hts (by decide +kernel)
  obtain ⟨c6, p6⟩ := f_obj (C := "JobBoard$Order") hts (by decide +kernel)
  refine ⟨(fun c => (hc c).choose, fun c => (hc c).choose_spec.choose), (fun k => [c0, c1, c2, c3, c4, c5, c6].getD k c0), fun c q hq => (hc c).choose_spec.choose_spec q hq, fun k q hq => ?_⟩
  match k, hq with
  | 0, hq => cases hq; exact p0
  | 1, hq => cases hq; exact p1
  | 2, hq => cases hq; exact p2
  | 3, hq => cases hq; exact p3
  | 4, hq => cases hq; exact p4
  | 5, hq => cases hq; exact p5
  | 6, hq => cases hq; exact p6
  | k + 7, hq => cases hq
theorem f_Nw (hts : ∀ w ∈ lw_tbl, w.before args s = true) : r_Nw s := by
  have h1 : (r_nests.all fun q => decide (Cond.methodLinkNest q.1 q.2.1 q.2.2.1 q.2.2.2 ∈ lw_tbl)) = true := by decide +kernel
  have h2 : (["JobBoard$Session", "JobBoard$Tuple", "JobBoard$Pattern", "JobBoard$Order"].all fun C => decide (Cond.arrayOver (.object C) ∈ lw_tbl)) = true := by decide +kernel
  exact ⟨fun q hq => va_Nw.of rfl (f_hts hts (List.all_eq_true.mp h1 q hq)), fun C hC => (f_hts (args := args) hts (List.all_eq_true.mp h2 C hC) : (Cond.arrayOver (.object C)).before args s = true)⟩
theorem f_Th (hts : ∀ w ∈ lw_tbl, w.before args s = true) (hg : (Jvm.Cond.and given_1 narrow_1).before args s = true) : q_Th (r_A s.heap.size) s := by
  have hfl := flat_of_before _ hg
  have h1 : ([1, 2, 3, 4].all fun k => (q_xw k).all fun w => w.ridesK && (decide (w ∈ lw_tbl) || decide (w ∈ flatC (Jvm.Cond.and given_1 narrow_1)))) = true := by decide +kernel
  intro k k1 k4 w hw a U' hW hk
  have hkm : k ∈ [1, 2, 3, 4] := by
    have : k = 1 ∨ k = 2 ∨ k = 3 ∨ k = 4 := by omega
    rcases this with q | q | q | q <;> rw [q] <;> decide
  have h2 := List.all_eq_true.mp (List.all_eq_true.mp h1 k hkm) w hw
  rw [Bool.and_eq_true, Bool.or_eq_true] at h2
  refine Jvm.Cond.rideK hW (fun y cy hy _ => ?_) (a := args) w h2.1 (h2.2.elim (fun q => f_hts hts q) (fun q => hfl w (of_decide_eq_true q)))
  have hlt : y < s.heap.size := (Array.getElem?_eq_some_iff.mp hy).1
  rw [hk y hlt (fun q => Nat.not_le.mpr hlt q)]
  exact hy
theorem f_Tn (hts : ∀ w ∈ lw_tbl, w.before args s = true) (hg : (Jvm.Cond.and given_1 narrow_1).before args s = true) : q_Tn s := by
  have hfl := flat_of_before _ hg
  have h1 : ([1, 2, 3, 4].all fun i => decide (Cond.castable (q_xn i) (q_xn i) ∈ lw_tbl)) = true := by decide +kernel
  have h2 : ([1, 2, 3, 4].all fun i => [1, 2, 3, 4].all fun j => decide (i = j) || decide (Cond.not (Cond.castable (q_xn i) (q_xn j)) ∈ flatC (Jvm.Cond.and given_1 narrow_1))) = true := by decide +kernel
  have mem : ∀ k, 1 ≤ k → k ≤ 4 → k ∈ [1, 2, 3, 4] := fun k k1 k4 => by
    have : k = 1 ∨ k = 2 ∨ k = 3 ∨ k = 4 := by omega
    rcases this with q | q | q | q <;> rw [q] <;> decide
  intro i j i1 i4 j1 j4
  obtain ⟨c, c', hc, hc', hcc⟩ := Cond.castable_spec (f_hts hts (List.all_eq_true.mp h1 i (mem i i1 i4)))
  obtain ⟨t, t', ht, ht', htt⟩ := Cond.castable_spec (f_hts hts (List.all_eq_true.mp h1 j (mem j j1 j4)))
  refine ⟨c, t, hc, ht, ?_⟩
  by_cases e : i = j
  · subst e
    cases hc.symm.trans ht
    cases hc.symm.trans hc'
    rw [hcc]
    exact (decide_eq_true rfl).symm
  · have h3 := List.all_eq_true.mp (List.all_eq_true.mp h2 i (mem i i1 i4)) j (mem j j1 j4)
    rw [decide_eq_false e, Bool.false_or] at h3
    have h4 := hfl _ (of_decide_eq_true h3)
    rw [decide_eq_false e]
    cases ha : s.vm.assignable c t with
    | false => rfl
    | true => simp [Cond.before, Cond.holds, Cond.value, hc, ht, ha] at h4
end FIN
/-! THE CLAIM OUT OF ONE WALK OF THE LAW'S BODY. Your part is whole_start (and what it stands on); all else here is the same for every law, but numbers. -/
def R_law : String := "JobBoardLaw"
def lw_P (b : Addr) (xs : List Int32) (args : Array Value) (s : State) : Prop := args = #[.ref b] ∧ s.IntsAt b xs ∧ xs.length ≤ 4097 ∧ (Jvm.Cond.and given_1 narrow_1).before args s = true
def lw_Q (_ : Array Value) (s : State) (o : Outcome) (t : State) : Prop := o = .returned (some (.int 1)) ∧ Framed s o t [] 627624 7213199
def lw_Z (below : List Frame) (a : Array Value) (s : State) : State → Prop := fun t => ∃ o, t.status = .running ∧ Ended t below o ∧ lw_Q a s o t
/-- the law's own end, with 1 on the stack, nothing written that was there before, its room as the claim has it -/
theorem lw_ret {p : Program} {l : Launch} {e : Env} {s : State} {m : MethodId} {below : List Frame} {meth : Method} {c : Code} {b : Nat} (hx : p.tables.exec = Jvm.exec) (hb : c.code = code) (hr : meth.sig.returnType = ret) (hlocks : meth.locks = false) {pc : Nat} {H : Heap} {ls : Array Slot} (hdg : decode code pc = .ok (.ireturn, 1)) : W p l e room_1 s m #[Value.ref b] below meth c H [] 627624 7213199 (lw_Z below #[Value.ref b] s) (F0 m pc ls [.int 1]) := by
  intro T hT X
  obtain ⟨fs, hret, hrun, hended, hW, hframe⟩ := X.leave (v := some (.int 1)) (hlocks := hlocks) (fun h => by rw [hr] at h; cases h)
  have hmeth' : T.vm.method? m = some meth := X.method'
  refine ⟨T.setFrames fs, ?_, .returned (some (.int 1)), hrun, hended, rfl, ⟨_, rfl⟩, hW, hframe⟩
  jvm_step X.here [X.here.top, hx, hb, hdg, hmeth', hr, ret, narrow_b1]
  (try refine ⟨rfl, ?_⟩); (try refine ⟨rfl, ?_⟩)
  first | (intro acts; rw [hret _ acts rfl rfl rfl]) | rw [hret _ _ rfl rfl rfl]
  exact Steps.refl _
/-- what holds at the law's entry: the machine, the code, the tables' words (any of lw_tbl by 'hts w (by decide +kernel)'), the script of L ints xs at the cell b, what the Statement gives of the start (any of its parts by flat_of_before) -/
def lw_At (p : Program) (l : Launch) (s : State) (m : MethodId) (meth : Method) (c : Code) (b L : Nat) (xs : Nat → Int32) : Prop :=
  p.tables.exec = Jvm.exec ∧ c.code = code ∧ meth.sig.returnType = ret ∧ c.maxLocals = 8 ∧ s.vm.findClass R_law = some m.cls ∧ (∀ w ∈ lw_tbl, w.before #[Value.ref b] s = true) ∧ va_X b L xs s s.heap ∧ b < s.heap.size ∧ meth.locks = false ∧ (Jvm.Cond.and given_1 narrow_1).before #[Value.ref b] s = true ∧ l.flags = flags0
/-- from the entry, for every script of at most 4097 ints, the law comes to its end with true -/
theorem whole_start {p : Program} {e : Env} {s : State} {m : MethodId} {below : List Frame} {meth : Method} {c : Code} (l : Launch) {b L : Nat} {xs : Nat → Int32} (hL : L ≤ 4097) (C0 : lw_At p l s m meth c b L xs) : W p l e room_1 s m #[Value.ref b] below meth c s.heap [] 0 0 (lw_Z below #[Value.ref b] s) (entryFrame m ([Value.ref b] : List Value).toArray 8) := by
  obtain ⟨hx, hb, hr, hml, hown, hts, hX, hbl, hlk, hgv, hfl⟩ := C0
  obtain ⟨D, cy, hK⟩ := f_K hts
  refine law_start (D := D) (cy := cy) (b := b) (Lx := L) (xs := xs) ⟨hx, hb, hml, hown, fun w hw => hts w (List.mem_filter.mp hw).1, hK, f_Nw hts, hX, hbl, hL, by decide, by decide, by decide, by decide⟩ hr hlk (f_Th hts hgv) (f_Tn hts hgv) (fun e he => Launch.traces_off hfl he) q_pr_ok q_mt_pl (Nat.le_refl _) (Nat.le_refl _) law_go (fun H locs ls cells slots h1 h2 hS => ?_)
  refine va_forget (fun q hq => hS.2.2 q hq) (W.widen h1 h2 ?_)
  refine lv_iconst (n := 1) (v := 1) hx hb (by decide +kernel) rfl ?_
  exact lw_ret hx hb hr hlk (by decide +kernel)
set_option maxHeartbeats 4000000 in
theorem lw_walk (l : Launch) (hfl : l.flags = flags0) (b : Addr) (xs : List Int32) : MetFree l x (headSpec (Jvm.Cond.code x code maxLocals ret :: tables_1) room_1) (lw_P b xs) (fun _ _ _ _ _ => True) lw_Q := by
  refine MetFree.of_bodyS (code := code) (maxLocals := maxLocals) (ret := ret) (by decide) ?_ ?_
  · intro args s m h hn
    obtain ⟨meth, c, h1, h2, h3, h4, h5, h6, -, -⟩ := Cond.code_spec hn (atoms_spec (ws := Jvm.Cond.code x code maxLocals ret :: tables_1) h _ List.mem_cons_self)
    exact ⟨meth, c, h1, h2, h3, h4, h5, h6⟩
  · intro p e s m args below meth c s₁ B hml0 hP _
    obtain ⟨rfl, hx, hbd, hgv⟩ := hP
    obtain ⟨scr, harrAt, hlist, hof, hsmall⟩ := hx
    obtain ⟨hcb, hkn, -, -⟩ := State.arrayAt?_spec harrAt
    have hown : s.vm.findClass R_law = some m.cls := findClass_of_methodNamed B.named
    have hts0 : ∀ c ∈ (Jvm.Cond.code x code maxLocals ret :: tables_1), c.before #[Value.ref b] s = true := atoms_spec (ws := Jvm.Cond.code x code maxLocals ret :: tables_1) B.pre
    have hts : ∀ w ∈ lw_tbl, w.before #[Value.ref b] s = true := k2_hts_sels lw_privs (fun w hw => hts0 w (List.mem_cons_of_mem _ hw)) lw_privs_ok
    have hml : c.maxLocals = 8 := B.maxLocals_eq (hts0 _ List.mem_cons_self)
    have X₀ : Stand p l e room_1 s m #[Value.ref b] below meth c s₁ [] 0 0 := Stand.of_body B
    have hh0 : s₁.heap = s.heap := by rw [B.state]; rfl
    have hsz : scr.slots.size = xs.length := by rw [← Array.length_toList, hlist, List.length_map]
    have hval : ∀ j : Nat, j < xs.length → scr.slots[j]? = some (.int (xs.getD j 0)) := fun j hj => by
      rw [← Array.getElem?_toList, hlist]
      simp [hj]
    have hbl : b < s.heap.size := (Array.getElem?_eq_some_iff.mp hcb).1
    have hX : va_X b xs.length (fun j => xs.getD j 0) s s.heap := ⟨scr, hcb, hof, hkn, hsz, hval⟩
    have K : W p l e room_1 s m #[Value.ref b] below meth c s₁.heap [] 0 0 (lw_Z below #[Value.ref b] s) (entryFrame m ([Value.ref b] : List Value).toArray 8) := by
      rw [hh0]
      exact whole_start l hbd ⟨B.exec, B.bytes, B.returns, hml, hown, hts, hX, hbl, B.notSynchronized, hgv, hfl⟩
    obtain ⟨t, a1, o, b1, b2, b3⟩ := K s₁ rfl X₀
    exact ⟨t, o, a1, b1, b2, b3⟩
theorem lw_pre_spec {args : Array Value} {s : State} (h : (Jvm.Cond.and given_1 narrow_1).before args s = true) (hr : rest_1_c.before args s = true) : ∃ (b : Addr) (xs : List Int32), lw_P b xs args s := by
  have hs := flat_of_before _ h
  have hq := flat_of_before _ hr
  have hc : (Cond.count 1).before args s = true := hs _ (by decide +kernel)
  have harr : (Cond.arrayOf (.arg 0) .int).before args s = true := hs _ (by decide +kernel)
  have hle : (Cond.le (.length (.arg 0)) (.int 4097)).before args s = true := hs _ (by decide +kernel)
  have hlen : (Cond.isInt (.length (.arg 0))).before args s = true := hq _ (by decide +kernel)
  have hall : (Cond.all (.arg 0) (.isInt (.elem (.arg 0) (.index 0)))).before args s = true := hq _ (by decide +kernel)
  obtain ⟨b, xs, hb, hx⟩ := State.ints_of_pre rfl harr hlen hall
  have hsm : xs.length < 2 ^ 31 := hx.choose_spec.2.2.2
  have hev : (Term.length (.arg 0)).eval args s none [] s = some (.int xs.length.toInt32) := hx.length_eval hb
  have hv := Cond.le_ints hev (show (Term.int 4097).eval args s none [] s = some (.int 4097) from rfl)
  have hd : xs.length.toInt32 ≤ 4097 := by
    simpa [Cond.before, Cond.holds, hv] using hle
  have hN : xs.length ≤ 4097 := (Int32.ofNat_le_ofNat hsm (by decide)).mp (show Int32.ofNat xs.length ≤ Int32.ofNat 4097 from hd)
  exact ⟨b, xs, Cond.one_arg hc (show args[0]? = some (.ref b) from hb), hx, hN, h⟩
theorem lw_comes (l : Launch) (hfl : l.flags = flags0) : Comes l x (Jvm.Cond.code x code maxLocals ret :: tables_1) room_1 (fun tb e args s => Calls_1 tb e args s ∧ rest_1 tb e args s ∧ Pre_1 tb e args s)
    (fun _ _ args s o t => lw_Q args s o t) := by
  intro p e ha hc hk s m args below hf hfit hheap happ hpre
  obtain ⟨b, xs, hP⟩ := lw_pre_spec hpre.2.2 hpre.2.1
  obtain ⟨k, o, h1, h2, h3, hQ⟩ := lw_walk l hfl b xs p e ha hc hk s m args below hf ((Spec.applies_iff_loose hf).mp happ).1 hP trivial
  exact ⟨k, o, h1, h2, h3, hQ⟩
theorem lw_frame {s t : State} {o : Outcome} {args : Array Value} (h : Framed s o t [] 627624 7213199) :
    Framed s o t (fieldLocs frame_1_writes args s ++ arrayLocs frame_1_arrays args s ++ staticLocs frame_1_statics s) 627624 7213199 := h
theorem lw_limb (L : Cond) (hL : ∀ (args : Array Value) (s t : State), L.after args s (.returned (some (.int 1))) t = true) :
    ArmFor flags0 classFile x code maxLocals ret World_1 tables_1 room_1 Calls_1 rest_1 Pre_1
      (fun tb e a s o t => postC L tb e a s o t ∧ Framed s o t (fieldLocs frame_1_writes a s ++ arrayLocs frame_1_arrays a s ++ staticLocs frame_1_statics s) 627624 7213199) := by
  intro l hfl _ _ p e ha hc hk s m args below hf hfit hheap happ hpre
  obtain ⟨k, o, h1, h2, h3, rfl, hF⟩ := lw_comes l hfl p e ha hc hk s m args below hf hfit hheap happ hpre
  exact ⟨k, _, h1, h2, h3, hL args s _, lw_frame hF⟩
theorem i_vc : Claimed_1_1 ∧ Claimed_1_2 := ⟨lw_limb limb_1_1 (fun args s t => by simp [limb_1_1, Cond.after, Cond.holds, Cond.value]), lw_limb limb_1_2 (fun args s t => Cond.after_iff.mpr (by
  first | (rw [show limb_1_2 = Cond.eq .result (.int 1) from rfl, Cond.eq_ints (x := 1) (y := 1) rfl rfl]; simp; done) | (simp [limb_1_2, Cond.value, Term.eval]; done)))⟩
