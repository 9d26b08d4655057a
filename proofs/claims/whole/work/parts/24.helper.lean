/-! The law's helpers: an exception in a method with handlers. Ours, written by runh.py -/
section SNH2
variable {mt : Nat → MRow} {p : Program} {l : Launch} {e : Env} {R : Room} {s : State} {m : MethodId} {args : Array Value} {below : List Frame} {meth : Method} {c : Code} {Q : State → Prop} {D : va_G} {cy : Nat → ClassId} {ad : Nat → Nat → Nat} {n k cells slots pc : Nat} {A : Nat → Prop} {g : Nat → PL → List PV → J → Option Res} {cal : Nat → List PV → J → Option Res} {r : Res} {L : PL} {st : List PV} {σ : J} {ox : Int} {oa ob : Nat} {ol : List Nat} {ex : Nat} {σx : J}
theorem z_67h (cx : q_Cx mt p s m meth c args k D cy n ad A R cells slots) (hTh : q_Th A s) (hTn : q_Tn s) (hlaw : (mt k).1.cls = "JobBoardLaw") (hx1 : 1 ≤ ex) (hx4 : ex ≤ 4) (hc1 : cells + 1 ≤ R.cells) (hs6 : slots + 6 ≤ R.slots) (hcat : ∃ hpc, q_pick pc ex (c.exceptionTable.toList.map (fun h => (h.startPc, h.endPc, h.handlerPc, h.catchType))) = some hpc ∧ ∀ (H : Heap) (locs : List Loc) (ls : Array Slot) (x : Addr), WJ D cy ad n σx H → va_S A s.heap H locs → lv_has ls (mt k).2.2.1 [] → W p l e R s m args below meth c H locs (cells + 1) (slots + 6) Q (F0 m hpc ls [.ref x])) (hg : ∀ pc L st σ, g pc L st σ = some (.inr ex, σx) → q_W mt p l e R s m args below meth c Q D cy ad n A k cells slots pc L st σ) {rm : Room} (hrm : rm.cells = 0 ∧ rm.slots = 0 ∧ rm.frames + 1 ≤ R.frames ∧ 49 + rm.locals ≤ R.locals) (hcl : ∀ k1 vs τ v τ1, cal k1 vs τ = some (.inl v, τ1) → (vs.map q_cat).sum ≤ (mt k1).2.2.1 → q_oks n vs → q_CT l mt rm D cy ad n A k1 vs τ v τ1) {rmx : Room} (hrx : rmx.cells = 1 ∧ rmx.slots = 6 ∧ rmx.frames + 1 ≤ R.frames ∧ 49 + rmx.locals ≤ R.locals) (hcx : ∀ k1 vs τ ex τ1, cal k1 vs τ = some (.inr ex, τ1) → (vs.map q_cat).sum ≤ (mt k1).2.2.1 → q_oks n vs → q_CX l mt rmx D cy ad n A k1 vs τ ex τ1) (ho : q_okB mt k pc (67, ox, oa, ob, ol) = true) (h : q_stp n g cal pc (67, ox, oa, ob, ol) L st σ = some (.inr ex, σx)) : q_W mt p l e R s m args below meth c Q D cy ad n A k cells slots pc L st σ := by
  replace ho : (q_dc (mt k).2.1 pc (.invokevirtual oa) 3 && q_wd (ol.getD 3 0) (.methodLink (mt k).1.cls oa (mt ob).1) && q_wd (ol.getD 4 0) (.instanceMethod (mt ob).1) && q_wd (ol.getD 5 0) (.selects (q_cl (ol.getD 1 0)).1 (mt ob).1 (mt ob).1) && q_wd (ol.getD 6 0) (.initialized (q_cl (ol.getD 1 0)).1) && q_wd (ol.getD 7 0) (.code (mt ob).1 (mt ob).2.1 (mt ob).2.2.1 (mt ob).2.2.2) && q_ny (mt ob).1 (q_cl (ol.getD 1 0)).1 (ol.getD 0 0) && Nat.ble (mt ob).2.2.1 30 && Nat.ble (ol.getD 2 0 + 1) (mt ob).2.2.1) = true := ho
  simp only [Bool.and_eq_true] at ho
  obtain ⟨⟨⟨⟨⟨⟨⟨⟨o1, o2⟩, o3⟩, o4⟩, o5⟩, o6⟩, o7⟩, o8⟩, o9⟩ := ho
  replace h : ((q_pop (ol.getD 0 0) st).bind fun a => (q_pR a.2).bind fun q => (q_ko q.1.1).bind fun w => bif Nat.beq w.1 (ol.getD 1 0) && (q_rm q.2 && Nat.beq ((a.1.map q_cat).sum) (ol.getD 2 0)) then (cal ob (.inr (.inr (some q.1)) :: a.1) σ).bind (q_af n (fun st' σ' => g (pc + 3) L st' σ') q.2) else none) = some (.inr ex, σx) := h
  obtain ⟨a, e_a, h⟩ := Option.bind_eq_some_iff.mp h
  obtain ⟨q, e_q, h⟩ := Option.bind_eq_some_iff.mp h
  obtain ⟨w, e_w, h⟩ := Option.bind_eq_some_iff.mp h
  obtain ⟨hb, h⟩ := q_bf h
  obtain ⟨z, e_z, h⟩ := Option.bind_eq_some_iff.mp h
  simp only [Bool.and_eq_true] at hb
  rcases q_af_or h with ⟨v, σ1, rfl, hv, h⟩ | ⟨ex', σ1, rfl, hr⟩
  · exact c_67 cx hg hrm hcl o1 o2 o3 o4 o5 o6 o7 o8 o9 e_a e_q e_w hb e_z hv h
  cases hr
  obtain ⟨e1, e2⟩ := q_pop_s _ e_a
  rw [q_pR_s e_q] at e1
  have hci := Nat.eq_of_beq_eq_true hb.1
  have hwd := Nat.eq_of_beq_eq_true hb.2.2
  rw [← hci] at o4 o5 o7
  have hc := q_kB_at e_w
  have hny := of_decide_eq_true o7
  intro H locs ls hP hS hl hL hst
  have hst2 := q_oks_iff.mp hst
  rw [e1] at hst2
  have hq : q_ok n (.inr (.inr (some q.1))) = true := hst2 _ (by simp)
  have hi : (q.1.1, q.1.2) ∈ idj n := q_ok_in hq (q_ko_ne e_w)
  obtain ⟨t, ht0, ht⟩ := wl_at (ad := ad) (cn := cj cy ad n σ) hi
  rw [cj_o e_w] at ht
  have hM := hcx _ _ _ _ _ e_z (by
    have h9 := Nat.le_of_ble_eq_true o9
    show 1 + (a.1.map q_cat).sum ≤ _
    omega) (q_oks_iff.mpr fun x hx => by
    rcases List.mem_cons.mp hx with rfl | hx
    · exact hq
    · exact hst2 x (by simp [hx]))
  have hro : ((q.2.map (q_tv ad)).map fun v => v.category).sum ≤ 8 := by
    rw [q_cats]
    exact Nat.le_of_ble_eq_true hb.2.1
  intro T hT X
  obtain ⟨mk, methM, hnamed, hmethM, hstM, habM⟩ := Cond.instanceMethod_spec (cx.2.2.2.2.1 _ (q_wd_in o3))
  obtain ⟨methM', cM, hmethM', -, -, -, -, -, -, hsigM⟩ := Cond.code_spec hnamed (cx.2.2.2.2.1 _ (q_wd_in o6))
  cases hmethM.symm.trans hmethM'
  obtain ⟨c2, r2, m2, s1, s2, s3, s4, kP, hkP, hkPi⟩ := Cond.selects_spec (cx.2.2.2.2.1 _ (q_wd_in o4))
  obtain ⟨cellB, b1, b2, b3⟩ := va_recv cx.2.2.2.2.2.1 hP (q_cl_at hc.1) ht
  cases b3.symm.trans s1
  cases (State.methodFound?_of_named hnamed ⟨hny.2.1, hny.2.2.1⟩).symm.trans s2
  cases hnamed.symm.trans s3
  have hsel : selectMethod e.platform s.vm cellB.cls mk = .method mk := by rw [Launch.admits_selectMethod X.admits]; exact s4
  have hlen : (a.1.map (q_tv ad)).length = methM.sig.parameters.length := by
    have h2 := hny.2.2.2
    rw [hsigM] at h2
    rw [List.length_map, e2]
    exact (Option.some.inj h2).symm
  obtain ⟨vm₁, X₁, hstep⟩ := X.invokevirtual cx.1 cx.2.2.2.1 (cx.2.2.2.2.1 _ (q_wd_in o2)) hnamed hmethM hstM hkP hkPi ⟨hny.2.1, hny.2.2.1⟩ (a := ad q.1.1 q.1.2) (cell := cellB) (by rw [hT]; exact b1) (fun z h => by rw [h] at b2; cases b2) hsel hmethM habM hkP hkPi (g := F0 m pc ls (st.map (q_tv ad))) rfl (argsL := a.1.map (q_tv ad)) (rest := q.2.map (q_tv ad)) hlen
    (by show st.map (q_tv ad) = _; rw [e1, List.map_append, List.map_reverse]; rfl) (by rw [cx.2.1]; exact q_dd o1)
  have wi : Cond.initialized (mt ob).1.cls ∈ gt := by rw [hny.1]; exact q_wd_in o5
  obtain ⟨x, T', L', X', hw1, hS', -, ⟨ce, hce, hcv, hcc⟩, st'⟩ := q_toX (g1 := { F0 m pc ls (st.map (q_tv ad)) with stack := q.2.map (q_tv ad) }) (ig := .invokevirtual oa) cx hTh hc1 hs6 hrx hT hP hS X₁ rfl (by rw [cx.2.2.1]; exact hl.1) (by rw [cx.2.1]; exact q_dd o1) (lv_room (m := m) (pc := pc) (ls := ls) (rest := q.2.map (q_tv ad)) hro) hM (X₁.named hnamed) (Nat.le_of_ble_eq_true o8) (q_wd_in o6) wi hstep
  obtain ⟨hpc, hpk, hk⟩ := hcat
  obtain ⟨t, a1, b1⟩ := q_catch X' (by rw [← hlaw]; exact cx.2.2.2.1) cx.2.2.2.2.1 hTn (g := { F0 m pc ls (st.map (q_tv ad)) with stack := q.2.map (q_tv ad) }) rfl hce hcv hx1 hx4 hcc hpk (hk T'.heap (locs ++ L') ls x hw1 hS' ⟨hl.1, hl.2.1, fun q hq => by cases hq⟩)
  exact ⟨t, st' _ a1, b1⟩
theorem q_allH {ci : Nat} (cx : q_Cx mt p s m meth c args k D cy n ad A R cells slots) (hTh : q_Th A s) (hTn : q_Tn s) (hlaw : (mt k).1.cls = "JobBoardLaw") (hx1 : 1 ≤ ex) (hx4 : ex ≤ 4) (hc1 : cells + 1 ≤ R.cells) (hs6 : slots + 6 ≤ R.slots) (hn68 : ci ≠ 68 ∧ ci ≠ 77) (hcat : ci = 67 → ∃ hpc, q_pick pc ex (c.exceptionTable.toList.map (fun h => (h.startPc, h.endPc, h.handlerPc, h.catchType))) = some hpc ∧ ∀ (H : Heap) (locs : List Loc) (ls : Array Slot) (x : Addr), WJ D cy ad n σx H → va_S A s.heap H locs → lv_has ls (mt k).2.2.1 [] → W p l e R s m args below meth c H locs (cells + 1) (slots + 6) Q (F0 m hpc ls [.ref x]))  (hg : ∀ pc L st σ, g pc L st σ = some (.inr ex, σx) → q_W mt p l e R s m args below meth c Q D cy ad n A k cells slots pc L st σ) {rm : Room} (hrm : rm.cells = 0 ∧ rm.slots = 0 ∧ rm.frames + 1 ≤ R.frames ∧ 49 + rm.locals ≤ R.locals) (hcl : ∀ k1 vs τ v τ1, cal k1 vs τ = some (.inl v, τ1) → (vs.map q_cat).sum ≤ (mt k1).2.2.1 → q_oks n vs → q_CT l mt rm D cy ad n A k1 vs τ v τ1) {rmx : Room} (hrx : rmx.cells = 1 ∧ rmx.slots = 6 ∧ rmx.frames + 1 ≤ R.frames ∧ 49 + rmx.locals ≤ R.locals) (hcx : ∀ k1 vs τ ex τ1, cal k1 vs τ = some (.inr ex, τ1) → (vs.map q_cat).sum ≤ (mt k1).2.2.1 → q_oks n vs → q_CX l mt rmx D cy ad n A k1 vs τ ex τ1) (ho : q_okB mt k pc (ci, ox, oa, ob, ol) = true) (h : q_stp n g cal pc (ci, ox, oa, ob, ol) L st σ = some (.inr ex, σx)) : q_W mt p l e R s m args below meth c Q D cy ad n A k cells slots pc L st σ := by
  by_cases hbig : 77 < ci ∨ ci = 5
  · rw [q_big hbig] at h
    cases h
  have hlt : ci < 78 := by omega
  match ci, hlt, hn68, hcat, ho, h with
  | 0, _, _, hcat, ho, h => exact z_0 cx hg ho h
  | 1, _, _, hcat, ho, h => exact z_1 cx hg ho h
  | 2, _, _, hcat, ho, h => exact z_2 cx hg ho h
  | 3, _, _, hcat, ho, h => exact z_3 cx hg ho h
  | 4, _, _, hcat, ho, h => exact z_4 cx hg ho h
  | 6, _, _, hcat, ho, h => exact z_6 cx hg ho h
  | 7, _, _, hcat, ho, h => exact z_7 cx hg ho h
  | 8, _, _, hcat, ho, h => exact z_8 cx hg ho h
  | 9, _, _, hcat, ho, h => exact z_9 cx hg ho h
  | 10, _, _, hcat, ho, h => exact z_10 cx hg ho h
  | 11, _, _, hcat, ho, h => exact z_11 cx hg ho h
  | 12, _, _, hcat, ho, h => exact z_12 cx hg ho h
  | 13, _, _, hcat, ho, h => exact z_13 cx hg ho h
  | 14, _, _, hcat, ho, h => exact z_14 cx hg ho h
  | 15, _, _, hcat, ho, h => exact z_15 cx hg ho h
  | 16, _, _, hcat, ho, h => exact z_16 cx hg ho h
  | 17, _, _, hcat, ho, h => exact z_17 cx hg ho h
  | 18, _, _, hcat, ho, h => exact z_18 cx hg ho h
  | 19, _, _, hcat, ho, h => exact z_19 cx hg ho h
  | 20, _, _, hcat, ho, h => exact z_20 cx hg ho h
  | 21, _, _, hcat, ho, h => exact z_21 cx hg ho h
  | 22, _, _, hcat, ho, h => exact z_22 cx hg ho h
  | 23, _, _, hcat, ho, h => exact z_23 cx hg ho h
  | 24, _, _, hcat, ho, h => exact z_24 cx hg ho h
  | 25, _, _, hcat, ho, h => exact z_25 cx hg ho h
  | 26, _, _, hcat, ho, h => exact z_26 cx hg ho h
  | 27, _, _, hcat, ho, h => exact z_27 cx hg ho h
  | 28, _, _, hcat, ho, h => exact z_28 cx hg ho h
  | 29, _, _, hcat, ho, h => exact z_29 cx hg ho h
  | 30, _, _, hcat, ho, h => exact z_30 cx hg ho h
  | 31, _, _, hcat, ho, h => exact z_31 cx hg ho h
  | 32, _, _, hcat, ho, h => exact z_32 cx hg ho h
  | 33, _, _, hcat, ho, h => exact z_33 cx hg ho h
  | 34, _, _, hcat, ho, h => exact z_34 cx hg ho h
  | 35, _, _, hcat, ho, h => exact z_35 cx hg ho h
  | 36, _, _, hcat, ho, h => exact z_36 cx hg ho h
  | 37, _, _, hcat, ho, h => exact z_37 cx hg ho h
  | 38, _, _, hcat, ho, h => exact z_38 cx hg ho h
  | 39, _, _, hcat, ho, h => exact z_39 cx hg ho h
  | 40, _, _, hcat, ho, h => exact z_40 cx hg ho h
  | 41, _, _, hcat, ho, h => exact z_41 cx hg ho h
  | 42, _, _, hcat, ho, h => exact z_42 cx hg ho h
  | 43, _, _, hcat, ho, h => exact z_43 cx hg ho h
  | 44, _, _, hcat, ho, h => exact z_44 cx hg ho h
  | 45, _, _, hcat, ho, h => exact z_45 cx hg ho h
  | 46, _, _, hcat, ho, h => exact z_46 cx hg ho h
  | 47, _, _, hcat, ho, h => exact z_47 cx hg ho h
  | 48, _, _, hcat, ho, h => exact z_48 cx hg ho h
  | 49, _, _, hcat, ho, h => exact z_49 cx hg ho h
  | 50, _, _, hcat, ho, h => exact z_50 cx hg ho h
  | 51, _, _, hcat, ho, h => exact z_51 cx hg ho h
  | 52, _, _, hcat, ho, h => exact z_52 cx hg ho h
  | 53, _, _, hcat, ho, h => exact z_53 cx hg ho h
  | 54, _, _, hcat, ho, h => exact z_54 cx hg ho h
  | 55, _, _, hcat, ho, h => exact z_55 cx hg ho h
  | 56, _, _, hcat, ho, h => exact z_56 cx hg ho h
  | 57, _, _, hcat, ho, h => exact z_57 cx hg ho h
  | 58, _, _, hcat, ho, h => exact z_58 cx hg ho h
  | 59, _, _, hcat, ho, h => exact z_59 cx hg ho h
  | 60, _, _, hcat, ho, h => exact z_60 cx hg ho h
  | 61, _, _, hcat, ho, h => exact z_61 cx hg ho h
  | 62, _, _, hcat, ho, h => exact z_62 cx hg ho h
  | 63, _, _, hcat, ho, h => exact z_63 cx hg ho h
  | 64, _, _, hcat, ho, h => exact z_64 cx hg ho h
  | 65, _, _, hcat, ho, h => exact z_65 cx hg ho h
  | 66, _, _, hcat, ho, h => exact z_66 cx hg ho h
  | 67, _, _, hcat, ho, h => exact z_67h cx hTh hTn hlaw hx1 hx4 hc1 hs6 (hcat rfl) hg hrm hcl hrx hcx ho h
  | 69, _, _, hcat, ho, h => exact z_69 cx hg ho h
  | 70, _, _, hcat, ho, h => exact z_70 cx hg ho h
  | 71, _, _, hcat, ho, h => exact z_71 cx hg ho h
  | 72, _, _, _, ho, h =>
    obtain ⟨⟨x1, x2⟩, e_x, h⟩ := Option.bind_eq_some_iff.mp (show ((q_pI st).bind fun x => match x.2 with
      | [] => (some (Sum.inl (some (.inl x.1)), σ) : Option Res)
      | _ :: _ => none) = some (Sum.inr ex, σx) from h)
    cases x2 with
    | cons _ _ =>
      replace h : none = some (Sum.inr ex, σx) := h
      cases h
    | nil =>
      replace h : ((some (Sum.inl (some (.inl x1)), σ) : Option Res)) = some (Sum.inr ex, σx) := h
      cases h
  | 73, _, _, _, ho, h =>
    obtain ⟨⟨x1, x2⟩, e_x, h⟩ := Option.bind_eq_some_iff.mp (show ((q_pI st).bind fun x => match x.2 with
      | [] => (if x.1 &&& 1 = x.1 then some (Sum.inl (some (.inl x.1)), σ) else none : Option Res)
      | _ :: _ => none) = some (Sum.inr ex, σx) from h)
    cases x2 with
    | cons _ _ =>
      replace h : none = some (Sum.inr ex, σx) := h
      cases h
    | nil =>
      replace h : ((if x1 &&& 1 = x1 then some (Sum.inl (some (.inl x1)), σ) else none : Option Res)) = some (Sum.inr ex, σx) := h
      by_cases hz : x1 &&& 1 = x1
      · rw [if_pos hz] at h
        cases h
      · rw [if_neg hz] at h
        cases h
  | 74, _, _, _, ho, h =>
    obtain ⟨⟨x1, x2⟩, e_x, h⟩ := Option.bind_eq_some_iff.mp (show ((q_pL st).bind fun x => match x.2 with
      | [] => (some (Sum.inl (some (.inr (.inl x.1))), σ) : Option Res)
      | _ :: _ => none) = some (Sum.inr ex, σx) from h)
    cases x2 with
    | cons _ _ =>
      replace h : none = some (Sum.inr ex, σx) := h
      cases h
    | nil =>
      replace h : ((some (Sum.inl (some (.inr (.inl x1))), σ) : Option Res)) = some (Sum.inr ex, σx) := h
      cases h
  | 75, _, _, _, ho, h =>
    obtain ⟨⟨x1, x2⟩, e_x, h⟩ := Option.bind_eq_some_iff.mp (show ((q_pN st).bind fun x => match x.2 with
      | [] => (some (Sum.inl (some (.inr (.inr x.1))), σ) : Option Res)
      | _ :: _ => none) = some (Sum.inr ex, σx) from h)
    cases x2 with
    | cons _ _ =>
      replace h : none = some (Sum.inr ex, σx) := h
      cases h
    | nil =>
      replace h : ((some (Sum.inl (some (.inr (.inr x1))), σ) : Option Res)) = some (Sum.inr ex, σx) := h
      cases h
  | 76, _, _, _, ho, h =>
    cases st with
    | cons _ _ =>
      replace h : none = some (Sum.inr ex, σx) := h
      cases h
    | nil =>
      replace h : some (Sum.inl none, σ) = some (Sum.inr ex, σx) := h
      cases h
  | 5, _, _, _, ho, h => exact absurd (Or.inr rfl) hbig
  | 68, _, hn, _, _, _ => exact absurd rfl hn.1
  | 77, _, hn, _, _, _ => exact absurd rfl hn.2
  | _ + 78, hl, _, _, _, _ => omega
end SNH2
section RUNH
variable {pr : Nat → Nat → Option Op} {mt : Nat → MRow} {n : Nat} {l : Launch} {D : va_G} {cy : Nat → ClassId} {ad : Nat → Nat → Nat} {A : Nat → Prop}
/-- in a method with handlers: a run that ends in an exception goes on at the handler -/
theorem q_frameH (hI : ∀ cn, va_D A (wl (idj n) ad cn)) (hpr : ∀ k pc o, pr k pc = some o → q_okB mt k pc o = true) (hpl : ∀ k, plainName (mt k).1.cls = true) (htr : ∀ e, l.admits e → e.platform.stackTraces = false) (d : Nat)
    {p : Program} {e : Env} {R : Room} {s : State} {m : MethodId} {args : Array Value} {below : List Frame} {meth : Method} {c : Code} {k cells slots : Nat} {Q : State → Prop} (cx : q_Cx mt p s m meth c args k D cy n ad A R cells slots) (hTh : q_Th A s) (hTn : q_Tn s) (hlaw : (mt k).1.cls = "JobBoardLaw") (hc1 : cells + 1 ≤ R.cells) (hs6 : slots + 6 ≤ R.slots) (hfr : d + 7 ≤ R.frames) (hlo : 49 * d + 160 ≤ R.locals) {ex : Nat} {σ1 : J} (hx1 : 1 ≤ ex) (hx4 : ex ≤ 4)
    (hno : ∀ pc o, pr k pc = some o → o.1 ≠ 68 ∧ o.1 ≠ 77)
    (hcat : ∀ pc o, pr k pc = some o → o.1 = 67 → ∃ hpc, q_pick pc ex (c.exceptionTable.toList.map (fun h => (h.startPc, h.endPc, h.handlerPc, h.catchType))) = some hpc ∧ ∀ (H : Heap) (locs : List Loc) (ls : Array Slot) (x : Addr), WJ D cy ad n σ1 H → va_S A s.heap H locs → lv_has ls (mt k).2.2.1 [] → W p l e R s m args below meth c H locs (cells + 1) (slots + 6) Q (F0 m hpc ls [.ref x])) :
    ∀ (f pc : Nat) (L : PL) (st : List PV) (σ : J), q_run pr n (d + 1) f k pc L st σ = some (.inr ex, σ1) → q_W mt p l e R s m args below meth c Q D cy ad n A k cells slots pc L st σ := by
  intro f
  induction f with
  | zero => intro pc L st σ h; cases h
  | succ f ih =>
    intro pc L st σ h
    unfold q_run at h
    cases ho : pr k pc with
    | none => rw [ho] at h; cases h
    | some o =>
      rw [ho] at h
      obtain ⟨ci, ox, oa, ob, ol⟩ := o
      have hok := hpr k pc _ ho
      exact q_allH (rm := q_rmd d) (rmx := q_rmx d) cx hTh hTn hlaw hx1 hx4 hc1 hs6 (hno pc _ ho) (fun hci => hcat pc _ ho hci) ih ⟨rfl, rfl, by show d + 1 + 1 ≤ _; omega, by show 49 + (49 * d + 60) ≤ _; omega⟩ (fun k1 vs τ v τ1 hz => q_met hI hpr hpl d f k1 vs τ v τ1 hz) ⟨rfl, rfl, by show d + 6 + 1 ≤ _; omega, by show 49 + (49 * d + 100) ≤ _; omega⟩ (fun k1 vs τ ex τ1 hz => q_metX hI hpr hpl htr d f k1 vs τ ex τ1 hz) hok h
end RUNH

