/-! Each step of the interpreter is a step of the machine: calls, copies, ends; and the whole run. Ours -/
def q_Q (D : va_G) (cy : Nat → ClassId) (ad : Nat → Nat → Nat) (n : Nat) (A : Nat → Prop) (v : Option Value) (σ : J) : Array Value → State → Outcome → State → Prop := fun _ st o t => o = .returned v ∧ WJ D cy ad n σ t.heap ∧ va_F A st t
def q_CT (l : Launch) (mt : Nat → MRow) (rm : Room) (D : va_G) (cy : Nat → ClassId) (ad : Nat → Nat → Nat) (n : Nat) (A : Nat → Prop) (k : Nat) (vs : List PV) (σ : J) (v : Option PV) (σ1 : J) : Prop :=
  Met l (mt k).1 (Cond.code (mt k).1 (mt k).2.1 (mt k).2.2.1 (mt k).2.2.2 :: gt) rm (va_Pc (vs.map (q_tv ad)) (fun U => WJ D cy ad n σ U.heap ∧ va_K D vcl (q_ty cy) U)) (q_Q D cy ad n A (v.map (q_tv ad)) σ1) 0 0 A
theorem q_oks_iff {n : Nat} {st : List PV} : q_oks n st ↔ ∀ v ∈ st, q_ok n v = true := by
  induction st with
  | nil => simp [q_oks]
  | cons v r ih => simp [q_oks, ih]
theorem q_pop_s : ∀ (j : Nat) {st : List PV} {a : List PV × List PV}, q_pop j st = some a → st = a.1.reverse ++ a.2 ∧ a.1.length = j := by
  intro j
  induction j with
  | zero => intro st a h; cases h; exact ⟨rfl, rfl⟩
  | succ j ih =>
    intro st a h
    match st, h with
    | [], h => cases h
    | v :: r, h =>
      unfold q_pop at h
      cases hq : q_pop j r with
      | none => rw [hq] at h; cases h
      | some q =>
        rw [hq] at h
        cases h
        obtain ⟨e1, e2⟩ := ih hq
        refine ⟨?_, by simp [e2]⟩
        rw [List.reverse_append, e1]
        rfl
theorem q_af_in {n : Nat} {g : List PV → J → Option Res} {rest : List PV} {z r : Res} (h : q_af n g rest z = some r) (hr : ∃ v τ, r = (.inl v, τ)) : ∃ v σ1, z = (.inl v, σ1) ∧ (∀ w, v = some w → q_ok n w = true) ∧ g (v.toList ++ rest) σ1 = some r := by
  obtain ⟨v | ex, σ1⟩ := z
  · cases v with
    | none => exact ⟨none, σ1, rfl, (fun w hw => by cases hw), h⟩
    | some v =>
      obtain ⟨h1, h2⟩ := q_bf (show (bif q_ok n v then g (v :: rest) σ1 else none) = some r from h)
      exact ⟨some v, σ1, rfl, (fun w hw => by cases hw; exact h1), h2⟩
  · have h : some (Sum.inr ex, σ1) = some r := h
    cases h
    obtain ⟨v, τ, e⟩ := hr
    cases e
theorem q_cats (ad : Nat → Nat → Nat) (st : List PV) : ((st.map (q_tv ad)).map fun v => v.category) = st.map q_cat := by
  rw [List.map_map]
  apply List.map_congr_left
  intro v _
  exact q_cat_tv ad v
theorem q_args_in {ad : Nat → Nat → Nat} {vs : List PV} : ∀ {i b : Nat} {v : PV}, q_args i vs b = some v → v ∈ vs ∧ (b, q_tv ad v) ∈ lv_args i (vs.map (q_tv ad)) := by
  induction vs with
  | nil => intro i b v h; cases h
  | cons w r ih =>
    intro i b v h
    have e : lv_args i ((w :: r).map (q_tv ad)) = (i, q_tv ad w) :: lv_args (if (q_tv ad w).category = 2 then i + 2 else i + 1) (r.map (q_tv ad)) := rfl
    rw [e, q_cat_tv]
    replace h : (bif Nat.beq b i then some w else q_args (bif Nat.beq (q_cat w) 2 then i + 2 else i + 1) r b) = some v := h
    cases hb : Nat.beq b i with
    | true =>
      rw [hb] at h
      have h : some w = some v := h
      cases h
      obtain rfl := Nat.eq_of_beq_eq_true hb
      exact ⟨List.mem_cons_self, List.mem_cons_self⟩
    | false =>
      rw [hb] at h
      have h2 := ih h
      refine ⟨List.mem_cons_of_mem _ h2.1, List.mem_cons_of_mem _ ?_⟩
      cases hc : Nat.beq (q_cat w) 2 with
      | true =>
        rw [if_pos (Nat.eq_of_beq_eq_true hc)]
        have h3 := h2.2
        rw [hc] at h3
        exact h3
      | false =>
        rw [if_neg (q_beq_ne hc)]
        have h3 := h2.2
        rw [hc] at h3
        exact h3
theorem q_args_has {ad : Nat → Nat → Nat} {ls : Array Slot} {nL : Nat} {vs : List PV} (h : lv_has ls nL (lv_args 0 (vs.map (q_tv ad)))) : lv_has ls nL (q_ll ad nL (q_args 0 vs)) := by
  refine ⟨h.1, h.2.1, fun q hq => h.2.2 q ?_⟩
  obtain ⟨h1, w, h2, h3⟩ := q_ll_of hq
  obtain ⟨b, u⟩ := q
  dsimp only at h1 h2 h3
  subst h3
  exact (q_args_in h2).2
theorem q_sl_len (vs : List Value) : (lg_sl vs).length = (vs.map fun v => v.category).sum := by
  induction vs with
  | nil => rfl
  | cons v r ih =>
    have e : lg_sl (v :: r) = (if v.category = 2 then [.val v, .second] else [.val v]) ++ lg_sl r := rfl
    rw [e, List.length_append, ih, List.map_cons, List.sum_cons]
    rcases lv_cat v with h | h <;> simp [h]
section SNC
variable {mt : Nat → MRow} {p : Program} {l : Launch} {e : Env} {R : Room} {s : State} {m : MethodId} {args : Array Value} {below : List Frame} {meth : Method} {c : Code} {Q : State → Prop} {D : va_G} {cy : Nat → ClassId} {ad : Nat → Nat → Nat} {n k cells slots pc : Nat} {A : Nat → Prop} {g : Nat → PL → List PV → J → Option Res} {cal : Nat → List PV → J → Option Res} {r : Res} {L : PL} {st : List PV} {σ : J} {ox : Int} {oa ob : Nat} {ol : List Nat}
theorem q_go {H : Heap} {locs : List Loc} {ls : Array Slot} {rest st0 : List Value} {σ1 : J} {v : Option Value} {a : Array Value} (hv : va_Run p l e R s m args below meth c H locs cells slots 0 0 (F0 m pc ls st0) rest (q_Q D cy ad n A v σ1 a) A) (hS : va_S A s.heap H locs)
    (kk : ∀ (H1 : Heap) (locs1 : List Loc), WJ D cy ad n σ1 H1 → va_S A s.heap H1 locs1 → W p l e R s m args below meth c H1 locs1 cells slots Q (F0 m (pc + 3) ls (v.toList ++ rest))) : W p l e R s m args below meth c H locs cells slots Q (F0 m pc ls st0) := by
  intro T hT X
  obtain ⟨v', st₀, t, T', L', h0, X', hL, e1, e2, ⟨hv', hw, hz, hk⟩, st'⟩ := hv T hT X
  cases hv'
  rw [h0] at hz hk
  obtain ⟨t2, a1, b1⟩ := kk T'.heap (locs ++ L') (by rw [e1]; exact hw) ⟨Nat.le_trans hS.1 (by rw [e1]; exact hz), fun q h1 h2 => by
      rw [e1, hk q (Nat.lt_of_lt_of_le h1 hS.1) h2]
      exact hS.2.1 q h1 h2, fun q hq => by
      rcases List.mem_append.mp hq with h | h
      · exact hS.2.2 q h
      · exact hL q h⟩ T' rfl X'
  exact ⟨t2, st' t2 a1, b1⟩
theorem c_67 (cx : q_Cx mt p s m meth c args k D cy n ad A R cells slots) (hg : ∀ pc L st σ, g pc L st σ = some r → q_W mt p l e R s m args below meth c Q D cy ad n A k cells slots pc L st σ) {rm : Room} (hrm : rm.cells = 0 ∧ rm.slots = 0 ∧ rm.frames + 1 ≤ R.frames ∧ 49 + rm.locals ≤ R.locals) (hcl : ∀ k1 vs τ v τ1, cal k1 vs τ = some (.inl v, τ1) → (vs.map q_cat).sum ≤ (mt k1).2.2.1 → q_oks n vs → q_CT l mt rm D cy ad n A k1 vs τ v τ1) (o1 : q_dc (mt k).2.1 pc (.invokevirtual oa) 3 = true) (o2 : q_wd (ol.getD 3 0) (.methodLink (mt k).1.cls oa (mt ob).1) = true) (o3 : q_wd (ol.getD 4 0) (.instanceMethod (mt ob).1) = true) (o4 : q_wd (ol.getD 5 0) (.selects (q_cl (ol.getD 1 0)).1 (mt ob).1 (mt ob).1) = true) (o5 : q_wd (ol.getD 6 0) (.initialized (q_cl (ol.getD 1 0)).1) = true) (o6 : q_wd (ol.getD 7 0) (.code (mt ob).1 (mt ob).2.1 (mt ob).2.2.1 (mt ob).2.2.2) = true) (o7 : q_ny (mt ob).1 (q_cl (ol.getD 1 0)).1 (ol.getD 0 0) = true) (o8 : Nat.ble (mt ob).2.2.1 30 = true) (o9 : Nat.ble (ol.getD 2 0 + 1) (mt ob).2.2.1 = true) {a : List PV × List PV} {q : (Nat × Nat) × List PV} {w : Nat × List (Nat × Nat × Nat)} (e_a : q_pop (ol.getD 0 0) st = some a) (e_q : q_pR a.2 = some q) (e_w : q_ko q.1.1 = some w) (hb : Nat.beq w.1 (ol.getD 1 0) = true ∧ q_rm q.2 = true ∧ Nat.beq ((a.1.map q_cat).sum) (ol.getD 2 0) = true) {v : Option PV} {σ1 : J} (e_z : cal ob (.inr (.inr (some q.1)) :: a.1) σ = some (.inl v, σ1)) (hv : ∀ w, v = some w → q_ok n w = true) (h : g (pc + 3) L (v.toList ++ q.2) σ1 = some r) : q_W mt p l e R s m args below meth c Q D cy ad n A k cells slots pc L st σ := by
  obtain ⟨e1, e2⟩ := q_pop_s _ e_a
  rw [q_pR_s e_q] at e1
  have hci := Nat.eq_of_beq_eq_true hb.1
  have hwd := Nat.eq_of_beq_eq_true hb.2.2
  rw [← hci] at o4 o5 o7
  have hc := q_kB_at e_w
  intro H locs ls hP hS hl hL hst
  have hst2 := q_oks_iff.mp hst
  rw [e1] at hst2
  have hq : q_ok n (.inr (.inr (some q.1))) = true := hst2 _ (by simp)
  have hi : (q.1.1, q.1.2) ∈ idj n := q_ok_in hq (q_ko_ne e_w)
  obtain ⟨t, ht0, ht⟩ := wl_at (ad := ad) (cn := cj cy ad n σ) hi
  rw [cj_o e_w] at ht
  have hM := hcl _ _ _ _ _ e_z (by
    have h9 := Nat.le_of_ble_eq_true o9
    show 1 + (a.1.map q_cat).sum ≤ _
    omega) (q_oks_iff.mpr fun x hx => by
    rcases List.mem_cons.mp hx with rfl | hx
    · exact hq
    · exact hst2 x (by simp [hx]))
  have hro : ((q.2.map (q_tv ad)).map fun v => v.category).sum ≤ 8 := by
    rw [q_cats]
    exact Nat.le_of_ble_eq_true hb.2.1
  have h8 := Nat.le_of_ble_eq_true o8
  have hW := va_runV (As := a.1.map (q_tv ad)) (rest := q.2.map (q_tv ad)) (g := F0 m pc ls (st.map (q_tv ad))) (Ts := gt) (locs := locs) (cells := cells) (slots := slots) (below := below) (e := e) (meth := meth) ⟨cx.1, cx.2.1, cx.2.2.1, cx.2.2.2.1, cx.2.2.2.2.1⟩ hM
    (cwV (C := (q_cl w.1).1) (index := oa) (ol.getD 0 0) cx.2.2.2.2.1 (gi_V (q_wd_in o2) (q_wd_in o3) (q_wd_in o4) (q_wd_in o5) (q_wd_in o6)) rfl hrm.1 hrm.2.1 (of_decide_eq_true o7) ⟨hrm.2.2.1, by have := hrm.2.2.2; omega⟩)
    ⟨fun a U g mk z => ⟨z.1, z.2.1, va_K.moved (u := U) (U := U.calling g mk a) (Vm.Alike.refl U.vm) z.2.2⟩, va_recv cx.2.2.2.2.2.1 hP (q_cl_at hc.1) ht, fun U hU hw => ⟨rfl, by rw [hU]; exact hP, va_K.moved hw.alike cx.2.2.2.2.2.1⟩⟩ rfl (by rw [List.length_map]; exact e2) hl.1
    (by show st.map (q_tv ad) = _; rw [e1, List.map_append, List.map_reverse]; rfl) (lv_room hro) (q_dd o1) ⟨cx.2.2.2.2.2.2.2.2.2.2.2.1, cx.2.2.2.2.2.2.2.2.2.2.2.2⟩
  refine q_go hW hS fun H1 locs1 hP1 hS1 => ?_
  have hgo := hg _ _ _ _ h H1 locs1 ls hP1 hS1 hl hL (q_oks_iff.mpr fun x hx => by
    rcases List.mem_append.mp hx with hx | hx
    · exact hv x (by cases v with
        | none => cases hx
        | some y => rw [List.mem_singleton.mp hx])
    · exact hst2 x (by simp [hx]))
  cases v <;> exact hgo
theorem z_67 (cx : q_Cx mt p s m meth c args k D cy n ad A R cells slots) (hg : ∀ pc L st σ, g pc L st σ = some r → q_W mt p l e R s m args below meth c Q D cy ad n A k cells slots pc L st σ) {rm : Room} (hrm : rm.cells = 0 ∧ rm.slots = 0 ∧ rm.frames + 1 ≤ R.frames ∧ 49 + rm.locals ≤ R.locals) (hcl : ∀ k1 vs τ v τ1, cal k1 vs τ = some (.inl v, τ1) → (vs.map q_cat).sum ≤ (mt k1).2.2.1 → q_oks n vs → q_CT l mt rm D cy ad n A k1 vs τ v τ1) (hr : ∃ v τ, r = (.inl v, τ)) (ho : q_okB mt k pc (67, ox, oa, ob, ol) = true) (h : q_stp n g cal pc (67, ox, oa, ob, ol) L st σ = some r) : q_W mt p l e R s m args below meth c Q D cy ad n A k cells slots pc L st σ := by
  replace ho : (q_dc (mt k).2.1 pc (.invokevirtual oa) 3 && q_wd (ol.getD 3 0) (.methodLink (mt k).1.cls oa (mt ob).1) && q_wd (ol.getD 4 0) (.instanceMethod (mt ob).1) && q_wd (ol.getD 5 0) (.selects (q_cl (ol.getD 1 0)).1 (mt ob).1 (mt ob).1) && q_wd (ol.getD 6 0) (.initialized (q_cl (ol.getD 1 0)).1) && q_wd (ol.getD 7 0) (.code (mt ob).1 (mt ob).2.1 (mt ob).2.2.1 (mt ob).2.2.2) && q_ny (mt ob).1 (q_cl (ol.getD 1 0)).1 (ol.getD 0 0) && Nat.ble (mt ob).2.2.1 30 && Nat.ble (ol.getD 2 0 + 1) (mt ob).2.2.1) = true := ho
  simp only [Bool.and_eq_true] at ho
  obtain ⟨⟨⟨⟨⟨⟨⟨⟨o1, o2⟩, o3⟩, o4⟩, o5⟩, o6⟩, o7⟩, o8⟩, o9⟩ := ho
  replace h : ((q_pop (ol.getD 0 0) st).bind fun a => (q_pR a.2).bind fun q => (q_ko q.1.1).bind fun w => bif Nat.beq w.1 (ol.getD 1 0) && (q_rm q.2 && Nat.beq ((a.1.map q_cat).sum) (ol.getD 2 0)) then (cal ob (.inr (.inr (some q.1)) :: a.1) σ).bind (q_af n (fun st' σ' => g (pc + 3) L st' σ') q.2) else none) = some r := h
  obtain ⟨a, e_a, h⟩ := Option.bind_eq_some_iff.mp h
  obtain ⟨q, e_q, h⟩ := Option.bind_eq_some_iff.mp h
  obtain ⟨w, e_w, h⟩ := Option.bind_eq_some_iff.mp h
  obtain ⟨hb, h⟩ := q_bf h
  obtain ⟨z, e_z, h⟩ := Option.bind_eq_some_iff.mp h
  simp only [Bool.and_eq_true] at hb
  obtain ⟨v, σ1, rfl, hv, h⟩ := q_af_in h hr
  exact c_67 cx hg hrm hcl o1 o2 o3 o4 o5 o6 o7 o8 o9 e_a e_q e_w hb e_z hv h
theorem c_68 (cx : q_Cx mt p s m meth c args k D cy n ad A R cells slots) (hg : ∀ pc L st σ, g pc L st σ = some r → q_W mt p l e R s m args below meth c Q D cy ad n A k cells slots pc L st σ) {rm : Room} (hrm : rm.cells = 0 ∧ rm.slots = 0 ∧ rm.frames + 1 ≤ R.frames ∧ 49 + rm.locals ≤ R.locals) (hcl : ∀ k1 vs τ v τ1, cal k1 vs τ = some (.inl v, τ1) → (vs.map q_cat).sum ≤ (mt k1).2.2.1 → q_oks n vs → q_CT l mt rm D cy ad n A k1 vs τ v τ1) (o1 : q_dc (mt k).2.1 pc (.invokestatic oa) 3 = true) (o2 : q_wd (ol.getD 3 0) (.methodLink (mt k).1.cls oa (mt ob).1) = true) (o3 : q_wd (ol.getD 4 0) (.static (mt ob).1) = true) (o5 : q_wd (ol.getD 6 0) (.initialized (mt ob).1.cls) = true) (o6 : q_wd (ol.getD 7 0) (.code (mt ob).1 (mt ob).2.1 (mt ob).2.2.1 (mt ob).2.2.2) = true) (o7 : q_ny (mt ob).1 (mt ob).1.cls (ol.getD 0 0) = true) (o8 : Nat.ble (mt ob).2.2.1 30 = true) (o9 : Nat.ble (ol.getD 2 0) (mt ob).2.2.1 = true) {a : List PV × List PV} (e_a : q_pop (ol.getD 0 0) st = some a) (hb : q_rm a.2 = true ∧ Nat.beq ((a.1.map q_cat).sum) (ol.getD 2 0) = true) {v : Option PV} {σ1 : J} (e_z : cal ob a.1 σ = some (.inl v, σ1)) (hv : ∀ w, v = some w → q_ok n w = true) (h : g (pc + 3) L (v.toList ++ a.2) σ1 = some r) : q_W mt p l e R s m args below meth c Q D cy ad n A k cells slots pc L st σ := by
  obtain ⟨e1, e2⟩ := q_pop_s _ e_a
  have hwd := Nat.eq_of_beq_eq_true hb.2
  intro H locs ls hP hS hl hL hst
  have hst2 := q_oks_iff.mp hst
  rw [e1] at hst2
  have hM := hcl _ _ _ _ _ e_z (by
    have h9 := Nat.le_of_ble_eq_true o9
    omega) (q_oks_iff.mpr fun x hx => hst2 x (by simp [hx]))
  have hro : ((a.2.map (q_tv ad)).map fun v => v.category).sum ≤ 8 := by
    rw [q_cats]
    exact Nat.le_of_ble_eq_true hb.1
  have h8 := Nat.le_of_ble_eq_true o8
  have hW := va_runS (As := a.1.map (q_tv ad)) (rest := a.2.map (q_tv ad)) (g := F0 m pc ls (st.map (q_tv ad))) (Ts := gt) (locs := locs) (cells := cells) (slots := slots) (below := below) (e := e) (meth := meth) ⟨cx.1, cx.2.1, cx.2.2.1, cx.2.2.2.1, cx.2.2.2.2.1⟩ hM
    ⟨callB_of (index := oa) (ol.getD 0 0) cx.2.2.2.2.1 (gi_1 (q_wd_in o6)) rfl hrm.1 hrm.2.1 (cx.2.2.2.2.1 _ (q_wd_in o5)) (cx.2.2.2.2.1 _ (q_wd_in o2)) (of_decide_eq_true o7).2 ⟨hrm.2.2.1, by have := hrm.2.2.2; omega⟩, cx.2.2.2.2.1 _ (q_wd_in o3)⟩
    ⟨fun a U g mk z => ⟨z.1, z.2.1, va_K.moved (u := U) (U := U.calling g mk a) (Vm.Alike.refl U.vm) z.2.2⟩, fun U hU hw => ⟨rfl, by rw [hU]; exact hP, va_K.moved hw.alike cx.2.2.2.2.2.1⟩⟩ rfl (by rw [List.length_map]; exact e2) hl.1
    (by show st.map (q_tv ad) = _; rw [e1, List.map_append, List.map_reverse]) (lv_room hro) (q_dd o1) ⟨cx.2.2.2.2.2.2.2.2.2.2.2.1, cx.2.2.2.2.2.2.2.2.2.2.2.2⟩
  refine q_go hW hS fun H1 locs1 hP1 hS1 => ?_
  have hgo := hg _ _ _ _ h H1 locs1 ls hP1 hS1 hl hL (q_oks_iff.mpr fun x hx => by
    rcases List.mem_append.mp hx with hx | hx
    · exact hv x (by cases v with
        | none => cases hx
        | some y => rw [List.mem_singleton.mp hx])
    · exact hst2 x (by simp [hx]))
  cases v <;> exact hgo
theorem z_68 (cx : q_Cx mt p s m meth c args k D cy n ad A R cells slots) (hg : ∀ pc L st σ, g pc L st σ = some r → q_W mt p l e R s m args below meth c Q D cy ad n A k cells slots pc L st σ) {rm : Room} (hrm : rm.cells = 0 ∧ rm.slots = 0 ∧ rm.frames + 1 ≤ R.frames ∧ 49 + rm.locals ≤ R.locals) (hcl : ∀ k1 vs τ v τ1, cal k1 vs τ = some (.inl v, τ1) → (vs.map q_cat).sum ≤ (mt k1).2.2.1 → q_oks n vs → q_CT l mt rm D cy ad n A k1 vs τ v τ1) (hr : ∃ v τ, r = (.inl v, τ)) (ho : q_okB mt k pc (68, ox, oa, ob, ol) = true) (h : q_stp n g cal pc (68, ox, oa, ob, ol) L st σ = some r) : q_W mt p l e R s m args below meth c Q D cy ad n A k cells slots pc L st σ := by
  replace ho : (q_dc (mt k).2.1 pc (.invokestatic oa) 3 && q_wd (ol.getD 3 0) (.methodLink (mt k).1.cls oa (mt ob).1) && q_wd (ol.getD 4 0) (.static (mt ob).1) && q_wd (ol.getD 6 0) (.initialized (mt ob).1.cls) && q_wd (ol.getD 7 0) (.code (mt ob).1 (mt ob).2.1 (mt ob).2.2.1 (mt ob).2.2.2) && q_ny (mt ob).1 (mt ob).1.cls (ol.getD 0 0) && Nat.ble (mt ob).2.2.1 30 && Nat.ble (ol.getD 2 0) (mt ob).2.2.1) = true := ho
  simp only [Bool.and_eq_true] at ho
  obtain ⟨⟨⟨⟨⟨⟨⟨o1, o2⟩, o3⟩, o5⟩, o6⟩, o7⟩, o8⟩, o9⟩ := ho
  replace h : ((q_pop (ol.getD 0 0) st).bind fun a => bif q_rm a.2 && Nat.beq ((a.1.map q_cat).sum) (ol.getD 2 0) then (cal ob a.1 σ).bind (q_af n (fun st' σ' => g (pc + 3) L st' σ') a.2) else none) = some r := h
  obtain ⟨a, e_a, h⟩ := Option.bind_eq_some_iff.mp h
  obtain ⟨hb, h⟩ := q_bf h
  obtain ⟨z, e_z, h⟩ := Option.bind_eq_some_iff.mp h
  simp only [Bool.and_eq_true] at hb
  obtain ⟨v, σ1, rfl, hv, h⟩ := q_af_in h hr
  exact c_68 cx hg hrm hcl o1 o2 o3 o5 o6 o7 o8 o9 e_a hb e_z hv h
theorem z_69 (cx : q_Cx mt p s m meth c args k D cy n ad A R cells slots) (hg : ∀ pc L st σ, g pc L st σ = some r → q_W mt p l e R s m args below meth c Q D cy ad n A k cells slots pc L st σ) (ho : q_okB mt k pc (69, ox, oa, ob, ol) = true) (h : q_stp n g cal pc (69, ox, oa, ob, ol) L st σ = some r) : q_W mt p l e R s m args below meth c Q D cy ad n A k cells slots pc L st σ := by
  replace ho : (q_dc (mt k).2.1 pc (.invokestatic oa) 3 && q_wd (ol.getD 0 0) (.methodLink (mt k).1.cls oa arraycopyName) && q_wd (ol.getD 1 0) (.native arraycopyName) && q_wd (ol.getD 2 0) (.static arraycopyName) && q_wd (ol.getD 3 0) (.initialized "java/lang/System")) = true := ho
  simp only [Bool.and_eq_true] at ho
  obtain ⟨⟨⟨⟨o1, o2⟩, o3⟩, o4⟩, o5⟩ := ho
  replace h : ((q_pI st).bind fun m => (q_pI m.2).bind fun dp => (q_pR dp.2).bind fun b => (q_pI b.2).bind fun sp => (q_pR sp.2).bind fun a => (q_ka a.1.1).bind fun wa => (q_ka b.1.1).bind fun wb => bif q_cpo sp.1 dp.1 m.1 (q_nn n wa.2.2) (q_nn n wb.2.2) && q_rm a.2 then
      bif Nat.beq wa.1 0 && Nat.beq wb.1 0 then g (pc + 3) L a.2 (q_sA σ b.1.1 b.1.2 (va_cpy (σ.2.1 a.1.1 a.1.2) (σ.2.1 b.1.1 b.1.2) sp.1.toNatClampNeg dp.1.toNatClampNeg m.1.toNatClampNeg))
      else bif Nat.beq wa.1 1 && Nat.beq wb.1 1 then g (pc + 3) L a.2 (q_sL σ b.1.1 b.1.2 (va_cpy (σ.2.2.1 a.1.1 a.1.2) (σ.2.2.1 b.1.1 b.1.2) sp.1.toNatClampNeg dp.1.toNatClampNeg m.1.toNatClampNeg)) else none else none) = some r := h
  obtain ⟨many, e_m, h⟩ := Option.bind_eq_some_iff.mp h
  obtain ⟨dp, e_dp, h⟩ := Option.bind_eq_some_iff.mp h
  obtain ⟨b, e_b, h⟩ := Option.bind_eq_some_iff.mp h
  obtain ⟨sp, e_sp, h⟩ := Option.bind_eq_some_iff.mp h
  obtain ⟨a, e_a, h⟩ := Option.bind_eq_some_iff.mp h
  obtain ⟨wa, e_wa, h⟩ := Option.bind_eq_some_iff.mp h
  obtain ⟨wb, e_wb, h⟩ := Option.bind_eq_some_iff.mp h
  obtain ⟨hb, h⟩ := q_bf h
  rw [q_pI_s e_m, q_pI_s e_dp, q_pR_s e_b, q_pI_s e_sp, q_pR_s e_a]
  simp only [q_cpo, Bool.and_eq_true, decide_eq_true_eq] at hb
  obtain ⟨⟨⟨⟨⟨b1, b2⟩, b3⟩, b4⟩, b5⟩, b6⟩ := hb
  intro H locs ls hP hS hl hL hst
  have hia : (a.1.1, a.1.2) ∈ idj n := q_ok_in hst.2.2.2.2.1 (q_ka_ne e_wa)
  have hib : (b.1.1, b.1.2) ∈ idj n := q_ok_in hst.2.2.1 (q_ka_ne e_wb)
  obtain ⟨ta, ta0, hta⟩ := wl_at (ad := ad) (cn := cj cy ad n σ) hia
  obtain ⟨tb, tb0, htb⟩ := wl_at (ad := ad) (cn := cj cy ad n σ) hib
  rw [cj_a e_wa] at hta
  rw [cj_a e_wb] at htb
  have hro : ((a.2.map (q_tv ad)).map fun v => v.category).sum ≤ 8 := by
    rw [q_cats]
    exact Nat.le_of_ble_eq_true b6
  have hnw : nativeFrameWords "java/lang/System" "arraycopy" 5 = 7 := by decide
  have h40 := cx.2.2.2.2.2.2.2.2.2.2.1
  have hlo : ((a.2.map (q_tv ad)).map fun v => v.category).sum + (nativeFrameWords "java/lang/System" "arraycopy" 5 + 11) ≤ R.locals := by
    rw [hnw]
    omega
  cases hk : (Nat.beq wa.1 0 && Nat.beq wb.1 0) with
  | true =>
    rw [hk] at h
    simp only [Bool.and_eq_true] at hk
    have w1 : wa.1 = 0 := Nat.eq_of_beq_eq_true hk.1
    have w2 : wb.1 = 0 := Nat.eq_of_beq_eq_true hk.2
    rw [w1] at hta
    rw [w2] at htb
    refine va_copyi cx.1 cx.2.1 (cx.2.2.1.trans hl.1.symm) cx.2.2.2.1 (cx.2.2.2.2.1 _ (q_wd_in o2)) (cx.2.2.2.2.1 _ (q_wd_in o3)) (cx.2.2.2.2.1 _ (q_wd_in o4)) (cx.2.2.2.2.1 _ (q_wd_in o5)) cx.2.2.2.2.2.1 hP (cx.2.2.2.2.2.2.2.2.1 _) hS ta tb 0 0 hta htb rfl rfl rfl b1 b2 b3 (Nat.le_of_ble_eq_true b4) (Nat.le_of_ble_eq_true b5) (fun _ _ => rfl) cx.2.2.2.2.2.2.2.2.2.1 hlo (q_dd o1) (fun H1 locs1 hP1 _ hS1 => ?_)
    rw [wl_set (cx.2.2.2.2.2.2.2.2.1 _) tb0, cj_sA' e_wb w2 (Or.inl rfl)] at hP1
    exact hg _ _ _ _ h H1 locs1 ls hP1 hS1 hl hL hst.2.2.2.2.2
  | false =>
    rw [hk] at h
    obtain ⟨hk, h⟩ := q_bf h
    simp only [Bool.and_eq_true] at hk
    have w1 : wa.1 = 1 := Nat.eq_of_beq_eq_true hk.1
    have w2 : wb.1 = 1 := Nat.eq_of_beq_eq_true hk.2
    rw [w1] at hta
    rw [w2] at htb
    refine va_copyl cx.1 cx.2.1 (cx.2.2.1.trans hl.1.symm) cx.2.2.2.1 (cx.2.2.2.2.1 _ (q_wd_in o2)) (cx.2.2.2.2.1 _ (q_wd_in o3)) (cx.2.2.2.2.1 _ (q_wd_in o4)) (cx.2.2.2.2.1 _ (q_wd_in o5)) cx.2.2.2.2.2.1 hP (cx.2.2.2.2.2.2.2.2.1 _) hS ta tb 1 1 hta htb rfl rfl rfl b1 b2 b3 (Nat.le_of_ble_eq_true b4) (Nat.le_of_ble_eq_true b5) (fun _ _ => rfl) cx.2.2.2.2.2.2.2.2.2.1 hlo (q_dd o1) (fun H1 locs1 hP1 _ hS1 => ?_)
    rw [wl_set (cx.2.2.2.2.2.2.2.2.1 _) tb0, cj_sL' e_wb w2 rfl] at hP1
    exact hg _ _ _ _ h H1 locs1 ls hP1 hS1 hl hL hst.2.2.2.2.2
theorem z_70 (cx : q_Cx mt p s m meth c args k D cy n ad A R cells slots) (hg : ∀ pc L st σ, g pc L st σ = some r → q_W mt p l e R s m args below meth c Q D cy ad n A k cells slots pc L st σ) (ho : q_okB mt k pc (70, ox, oa, ob, ol) = true) (h : q_stp n g cal pc (70, ox, oa, ob, ol) L st σ = some r) : q_W mt p l e R s m args below meth c Q D cy ad n A k cells slots pc L st σ := by
  replace ho : (q_dc (mt k).2.1 pc (.invokestatic oa) 3 && q_wd (ol.getD 0 0) (.methodLink (mt k).1.cls oa Lib.MathLoose.max_long.x) && q_wd (ol.getD 1 0) (.static Lib.MathLoose.max_long.x) && q_wd (ol.getD 2 0) (.initialized "java/lang/Math") && q_wd (ol.getD 3 0) (.code Lib.MathLoose.max_long.x Lib.MathLoose.max_long.code 4 (some .long))) = true := ho
  simp only [Bool.and_eq_true] at ho
  obtain ⟨⟨⟨⟨o1, o2⟩, o3⟩, o4⟩, o5⟩ := ho
  replace h : ((q_pL st).bind fun y => (q_pL y.2).bind fun x => bif q_rm x.2 then g (pc + 3) L (.inr (.inl (if y.1 < x.1 then x.1 else y.1)) :: x.2) σ else none) = some r := h
  obtain ⟨y, e_y, h⟩ := Option.bind_eq_some_iff.mp h
  obtain ⟨x, e_x, h⟩ := Option.bind_eq_some_iff.mp h
  obtain ⟨hb, h⟩ := q_bf h
  rw [q_pL_s e_y, q_pL_s e_x]
  intro H locs ls hP hS hl hL hst
  have hro : ((x.2.map (q_tv ad)).map fun v => v.category).sum ≤ 8 := by
    rw [q_cats]
    exact Nat.le_of_ble_eq_true hb
  have h40 := cx.2.2.2.2.2.2.2.2.2.2.1
  exact va_mmax_long cx.1 cx.2.1 (cx.2.2.1.trans hl.1.symm) cx.2.2.2.1 (cx.2.2.2.2.1 _ (q_wd_in o2)) (cx.2.2.2.2.1 _ (q_wd_in o3)) (cx.2.2.2.2.1 _ (q_wd_in o4)) (cx.2.2.2.2.1 _ (q_wd_in o5)) cx.2.2.2.2.2.2.2.2.2.1 (by omega) cx.2.2.2.2.2.2.2.2.2.2.2.1 cx.2.2.2.2.2.2.2.2.2.2.2.2 (q_dd o1) (hg _ _ _ _ h H locs ls hP hS hl hL ⟨rfl, hst.2.2⟩)
theorem z_71 (cx : q_Cx mt p s m meth c args k D cy n ad A R cells slots) (hg : ∀ pc L st σ, g pc L st σ = some r → q_W mt p l e R s m args below meth c Q D cy ad n A k cells slots pc L st σ) (ho : q_okB mt k pc (71, ox, oa, ob, ol) = true) (h : q_stp n g cal pc (71, ox, oa, ob, ol) L st σ = some r) : q_W mt p l e R s m args below meth c Q D cy ad n A k cells slots pc L st σ := by
  replace ho : (q_dc (mt k).2.1 pc (.invokestatic oa) 3 && q_wd (ol.getD 0 0) (.methodLink (mt k).1.cls oa Lib.MathLoose.min_long.x) && q_wd (ol.getD 1 0) (.static Lib.MathLoose.min_long.x) && q_wd (ol.getD 2 0) (.initialized "java/lang/Math") && q_wd (ol.getD 3 0) (.code Lib.MathLoose.min_long.x Lib.MathLoose.min_long.code 4 (some .long))) = true := ho
  simp only [Bool.and_eq_true] at ho
  obtain ⟨⟨⟨⟨o1, o2⟩, o3⟩, o4⟩, o5⟩ := ho
  replace h : ((q_pL st).bind fun y => (q_pL y.2).bind fun x => bif q_rm x.2 then g (pc + 3) L (.inr (.inl (if y.1 < x.1 then y.1 else x.1)) :: x.2) σ else none) = some r := h
  obtain ⟨y, e_y, h⟩ := Option.bind_eq_some_iff.mp h
  obtain ⟨x, e_x, h⟩ := Option.bind_eq_some_iff.mp h
  obtain ⟨hb, h⟩ := q_bf h
  rw [q_pL_s e_y, q_pL_s e_x]
  intro H locs ls hP hS hl hL hst
  have hro : ((x.2.map (q_tv ad)).map fun v => v.category).sum ≤ 8 := by
    rw [q_cats]
    exact Nat.le_of_ble_eq_true hb
  have h40 := cx.2.2.2.2.2.2.2.2.2.2.1
  exact va_mmin_long cx.1 cx.2.1 (cx.2.2.1.trans hl.1.symm) cx.2.2.2.1 (cx.2.2.2.2.1 _ (q_wd_in o2)) (cx.2.2.2.2.1 _ (q_wd_in o3)) (cx.2.2.2.2.1 _ (q_wd_in o4)) (cx.2.2.2.2.1 _ (q_wd_in o5)) cx.2.2.2.2.2.2.2.2.2.1 (by omega) cx.2.2.2.2.2.2.2.2.2.2.2.1 cx.2.2.2.2.2.2.2.2.2.2.2.2 (q_dd o1) (hg _ _ _ _ h H locs ls hP hS hl hL ⟨rfl, hst.2.2⟩)
theorem z_72 (cx : q_Cx mt p s m meth c args k D cy n ad A R cells slots) (hg : ∀ pc L st σ, g pc L st σ = some r → q_W mt p l e R s m args below meth c Q D cy ad n A k cells slots pc L st σ) (hQ : ∃ v τ, r = (.inl v, τ) ∧ Q = MQ below (q_Q D cy ad n A (v.map (q_tv ad)) τ) args s cells slots A) (ho : q_okB mt k pc (72, ox, oa, ob, ol) = true) (h : q_stp n g cal pc (72, ox, oa, ob, ol) L st σ = some r) : q_W mt p l e R s m args below meth c Q D cy ad n A k cells slots pc L st σ := by
  replace ho : (q_dc (mt k).2.1 pc .ireturn 1 && decide ((mt k).2.2.2 = some .int)) = true := ho
  simp only [Bool.and_eq_true] at ho
  replace h : ((q_pI st).bind fun x => match x.2 with
    | [] => some (.inl (some (.inl x.1)), σ)
    | _ :: _ => none) = some r := h
  obtain ⟨x, e_x, h⟩ := Option.bind_eq_some_iff.mp h
  rw [q_pI_s e_x]
  obtain ⟨x1, x2⟩ := x
  cases x2 with
  | cons _ _ => cases h
  | nil =>
    cases h
    obtain ⟨v, τ, e1, e2⟩ := hQ
    cases e1
    subst e2
    intro H locs ls hP hS hl hL hst
    exact W.iret cx.1 cx.2.1 (cx.2.2.2.2.2.2.1.trans (of_decide_eq_true ho.2)) (fun _ ht _ => ⟨rfl, by rw [ht]; exact hP, hS.F ht⟩) hS.2.2 (q_dd ho.1) cx.2.2.2.2.2.2.2.1

theorem z_73 (cx : q_Cx mt p s m meth c args k D cy n ad A R cells slots) (hg : ∀ pc L st σ, g pc L st σ = some r → q_W mt p l e R s m args below meth c Q D cy ad n A k cells slots pc L st σ) (hQ : ∃ v τ, r = (.inl v, τ) ∧ Q = MQ below (q_Q D cy ad n A (v.map (q_tv ad)) τ) args s cells slots A) (ho : q_okB mt k pc (73, ox, oa, ob, ol) = true) (h : q_stp n g cal pc (73, ox, oa, ob, ol) L st σ = some r) : q_W mt p l e R s m args below meth c Q D cy ad n A k cells slots pc L st σ := by
  replace ho : (q_dc (mt k).2.1 pc .ireturn 1 && decide ((mt k).2.2.2 = some .boolean)) = true := ho
  simp only [Bool.and_eq_true] at ho
  replace h : ((q_pI st).bind fun x => match x.2 with
    | [] => if x.1 &&& 1 = x.1 then some (.inl (some (.inl x.1)), σ) else none
    | _ :: _ => none) = some r := h
  obtain ⟨x, e_x, h⟩ := Option.bind_eq_some_iff.mp h
  rw [q_pI_s e_x]
  obtain ⟨x1, x2⟩ := x
  cases x2 with
  | cons _ _ => cases h
  | nil =>
    replace h : (if x1 &&& 1 = x1 then some (.inl (some (.inl x1)), σ) else none) = some r := h
    by_cases hz : ¬ (x1 &&& 1 = x1)
    · rw [if_neg hz] at h
      cases h
    replace hz := Classical.not_not.mp hz
    rw [if_pos hz] at h
    cases h
    obtain ⟨v, τ, e1, e2⟩ := hQ
    cases e1
    subst e2
    intro H locs ls hP hS hl hL hst
    exact W.zret cx.1 cx.2.1 (cx.2.2.2.2.2.2.1.trans (of_decide_eq_true ho.2)) (q_b1 hz).1 (fun _ ht _ => ⟨rfl, by rw [ht]; exact hP, hS.F ht⟩) hS.2.2 (q_dd ho.1) cx.2.2.2.2.2.2.2.1

theorem z_74 (cx : q_Cx mt p s m meth c args k D cy n ad A R cells slots) (hg : ∀ pc L st σ, g pc L st σ = some r → q_W mt p l e R s m args below meth c Q D cy ad n A k cells slots pc L st σ) (hQ : ∃ v τ, r = (.inl v, τ) ∧ Q = MQ below (q_Q D cy ad n A (v.map (q_tv ad)) τ) args s cells slots A) (ho : q_okB mt k pc (74, ox, oa, ob, ol) = true) (h : q_stp n g cal pc (74, ox, oa, ob, ol) L st σ = some r) : q_W mt p l e R s m args below meth c Q D cy ad n A k cells slots pc L st σ := by
  replace ho : (q_dc (mt k).2.1 pc .lreturn 1 && decide ((mt k).2.2.2 = some .long)) = true := ho
  simp only [Bool.and_eq_true] at ho
  replace h : ((q_pL st).bind fun x => match x.2 with
    | [] => some (.inl (some (.inr (.inl x.1))), σ)
    | _ :: _ => none) = some r := h
  obtain ⟨x, e_x, h⟩ := Option.bind_eq_some_iff.mp h
  rw [q_pL_s e_x]
  obtain ⟨x1, x2⟩ := x
  cases x2 with
  | cons _ _ => cases h
  | nil =>
    cases h
    obtain ⟨v, τ, e1, e2⟩ := hQ
    cases e1
    subst e2
    intro H locs ls hP hS hl hL hst
    exact W.lret cx.1 cx.2.1 (cx.2.2.2.2.2.2.1.trans (of_decide_eq_true ho.2)) (fun _ ht _ => ⟨rfl, by rw [ht]; exact hP, hS.F ht⟩) hS.2.2 (q_dd ho.1) cx.2.2.2.2.2.2.2.1

theorem z_75 (cx : q_Cx mt p s m meth c args k D cy n ad A R cells slots) (hg : ∀ pc L st σ, g pc L st σ = some r → q_W mt p l e R s m args below meth c Q D cy ad n A k cells slots pc L st σ) (hQ : ∃ v τ, r = (.inl v, τ) ∧ Q = MQ below (q_Q D cy ad n A (v.map (q_tv ad)) τ) args s cells slots A) (ho : q_okB mt k pc (75, ox, oa, ob, ol) = true) (h : q_stp n g cal pc (75, ox, oa, ob, ol) L st σ = some r) : q_W mt p l e R s m args below meth c Q D cy ad n A k cells slots pc L st σ := by
  replace ho : (q_dc (mt k).2.1 pc .areturn 1 && (match (mt k).2.2.2 with
    | some (.object _) => true
    | _ => false)) = true := ho
  simp only [Bool.and_eq_true] at ho
  replace h : ((q_pN st).bind fun x => match x.2 with
    | [] => some (.inl (some (.inr (.inr x.1))), σ)
    | _ :: _ => none) = some r := h
  obtain ⟨x, e_x, h⟩ := Option.bind_eq_some_iff.mp h
  rw [q_pN_s e_x]
  obtain ⟨x1, x2⟩ := x
  cases x2 with
  | cons _ _ => cases h
  | nil =>
    obtain ⟨C, hC⟩ : ∃ C, (mt k).2.2.2 = some (.object C) := by
      have h2 := ho.2
      split at h2
      · exact ⟨_, by assumption⟩
      · cases h2
    cases h
    obtain ⟨v, τ, e1, e2⟩ := hQ
    cases e1
    subst e2
    intro H locs ls hP hS hl hL hst
    exact W.aret cx.1 cx.2.1 (cx.2.2.2.2.2.2.1.trans hC) (Or.inl ⟨_, rfl⟩) (by cases x1 with
      | none => exact Or.inl rfl
      | some _ => exact Or.inr ⟨_, rfl⟩) (fun _ ht _ => ⟨rfl, by rw [ht]; exact hP, hS.F ht⟩) hS.2.2 (q_dd ho.1) cx.2.2.2.2.2.2.2.1

theorem z_76 (cx : q_Cx mt p s m meth c args k D cy n ad A R cells slots) (hg : ∀ pc L st σ, g pc L st σ = some r → q_W mt p l e R s m args below meth c Q D cy ad n A k cells slots pc L st σ) (hQ : ∃ v τ, r = (.inl v, τ) ∧ Q = MQ below (q_Q D cy ad n A (v.map (q_tv ad)) τ) args s cells slots A) (ho : q_okB mt k pc (76, ox, oa, ob, ol) = true) (h : q_stp n g cal pc (76, ox, oa, ob, ol) L st σ = some r) : q_W mt p l e R s m args below meth c Q D cy ad n A k cells slots pc L st σ := by
  replace ho : (q_dc (mt k).2.1 pc .return_ 1 && decide ((mt k).2.2.2 = none)) = true := ho
  simp only [Bool.and_eq_true] at ho
  cases st with
  | cons _ _ =>
    replace h : none = some r := h
    cases h
  | nil =>
    replace h : some (Sum.inl none, σ) = some r := h
    cases h
    obtain ⟨v, τ, e1, e2⟩ := hQ
    cases e1
    subst e2
    intro H locs ls hP hS hl hL hst
    exact W.vret cx.1 cx.2.1 (cx.2.2.2.2.2.2.1.trans (of_decide_eq_true ho.2)) (fun _ ht _ => ⟨rfl, by rw [ht]; exact hP, hS.F ht⟩) hS.2.2 (q_dd ho.1) cx.2.2.2.2.2.2.2.1
theorem q_big {ci : Nat} (hc : 77 < ci ∨ ci = 5) : q_stp n g cal pc (ci, ox, oa, ob, ol) L st σ = none := by
  unfold q_stp
  dsimp only
  split <;> first | rfl | (exfalso; omega)
theorem q_all {ci : Nat} (cx : q_Cx mt p s m meth c args k D cy n ad A R cells slots) (hg : ∀ pc L st σ, g pc L st σ = some r → q_W mt p l e R s m args below meth c Q D cy ad n A k cells slots pc L st σ) {rm : Room} (hrm : rm.cells = 0 ∧ rm.slots = 0 ∧ rm.frames + 1 ≤ R.frames ∧ 49 + rm.locals ≤ R.locals) (hcl : ∀ k1 vs τ v τ1, cal k1 vs τ = some (.inl v, τ1) → (vs.map q_cat).sum ≤ (mt k1).2.2.1 → q_oks n vs → q_CT l mt rm D cy ad n A k1 vs τ v τ1) (hQ : ∃ v τ, r = (.inl v, τ) ∧ Q = MQ below (q_Q D cy ad n A (v.map (q_tv ad)) τ) args s cells slots A) (ho : q_okB mt k pc (ci, ox, oa, ob, ol) = true) (h : q_stp n g cal pc (ci, ox, oa, ob, ol) L st σ = some r) : q_W mt p l e R s m args below meth c Q D cy ad n A k cells slots pc L st σ := by
  by_cases hbig : 77 < ci ∨ ci = 5
  · rw [q_big hbig] at h
    cases h
  have hlt : ci < 78 := by omega
  match ci, hlt, ho, h with
  | 0, _, ho, h => exact z_0 cx hg ho h
  | 1, _, ho, h => exact z_1 cx hg ho h
  | 2, _, ho, h => exact z_2 cx hg ho h
  | 3, _, ho, h => exact z_3 cx hg ho h
  | 4, _, ho, h => exact z_4 cx hg ho h
  | 6, _, ho, h => exact z_6 cx hg ho h
  | 7, _, ho, h => exact z_7 cx hg ho h
  | 8, _, ho, h => exact z_8 cx hg ho h
  | 9, _, ho, h => exact z_9 cx hg ho h
  | 10, _, ho, h => exact z_10 cx hg ho h
  | 11, _, ho, h => exact z_11 cx hg ho h
  | 12, _, ho, h => exact z_12 cx hg ho h
  | 13, _, ho, h => exact z_13 cx hg ho h
  | 14, _, ho, h => exact z_14 cx hg ho h
  | 15, _, ho, h => exact z_15 cx hg ho h
  | 16, _, ho, h => exact z_16 cx hg ho h
  | 17, _, ho, h => exact z_17 cx hg ho h
  | 18, _, ho, h => exact z_18 cx hg ho h
  | 19, _, ho, h => exact z_19 cx hg ho h
  | 20, _, ho, h => exact z_20 cx hg ho h
  | 21, _, ho, h => exact z_21 cx hg ho h
  | 22, _, ho, h => exact z_22 cx hg ho h
  | 23, _, ho, h => exact z_23 cx hg ho h
  | 24, _, ho, h => exact z_24 cx hg ho h
  | 25, _, ho, h => exact z_25 cx hg ho h
  | 26, _, ho, h => exact z_26 cx hg ho h
  | 27, _, ho, h => exact z_27 cx hg ho h
  | 28, _, ho, h => exact z_28 cx hg ho h
  | 29, _, ho, h => exact z_29 cx hg ho h
  | 30, _, ho, h => exact z_30 cx hg ho h
  | 31, _, ho, h => exact z_31 cx hg ho h
  | 32, _, ho, h => exact z_32 cx hg ho h
  | 33, _, ho, h => exact z_33 cx hg ho h
  | 34, _, ho, h => exact z_34 cx hg ho h
  | 35, _, ho, h => exact z_35 cx hg ho h
  | 36, _, ho, h => exact z_36 cx hg ho h
  | 37, _, ho, h => exact z_37 cx hg ho h
  | 38, _, ho, h => exact z_38 cx hg ho h
  | 39, _, ho, h => exact z_39 cx hg ho h
  | 40, _, ho, h => exact z_40 cx hg ho h
  | 41, _, ho, h => exact z_41 cx hg ho h
  | 42, _, ho, h => exact z_42 cx hg ho h
  | 43, _, ho, h => exact z_43 cx hg ho h
  | 44, _, ho, h => exact z_44 cx hg ho h
  | 45, _, ho, h => exact z_45 cx hg ho h
  | 46, _, ho, h => exact z_46 cx hg ho h
  | 47, _, ho, h => exact z_47 cx hg ho h
  | 48, _, ho, h => exact z_48 cx hg ho h
  | 49, _, ho, h => exact z_49 cx hg ho h
  | 50, _, ho, h => exact z_50 cx hg ho h
  | 51, _, ho, h => exact z_51 cx hg ho h
  | 52, _, ho, h => exact z_52 cx hg ho h
  | 53, _, ho, h => exact z_53 cx hg ho h
  | 54, _, ho, h => exact z_54 cx hg ho h
  | 55, _, ho, h => exact z_55 cx hg ho h
  | 56, _, ho, h => exact z_56 cx hg ho h
  | 57, _, ho, h => exact z_57 cx hg ho h
  | 58, _, ho, h => exact z_58 cx hg ho h
  | 59, _, ho, h => exact z_59 cx hg ho h
  | 60, _, ho, h => exact z_60 cx hg ho h
  | 61, _, ho, h => exact z_61 cx hg ho h
  | 62, _, ho, h => exact z_62 cx hg ho h
  | 63, _, ho, h => exact z_63 cx hg ho h
  | 64, _, ho, h => exact z_64 cx hg ho h
  | 65, _, ho, h => exact z_65 cx hg ho h
  | 66, _, ho, h => exact z_66 cx hg ho h
  | 67, _, ho, h => exact z_67 cx hg hrm hcl ⟨_, _, hQ.choose_spec.choose_spec.1⟩ ho h
  | 68, _, ho, h => exact z_68 cx hg hrm hcl ⟨_, _, hQ.choose_spec.choose_spec.1⟩ ho h
  | 69, _, ho, h => exact z_69 cx hg ho h
  | 70, _, ho, h => exact z_70 cx hg ho h
  | 71, _, ho, h => exact z_71 cx hg ho h
  | 72, _, ho, h => exact z_72 cx hg hQ ho h
  | 73, _, ho, h => exact z_73 cx hg hQ ho h
  | 74, _, ho, h => exact z_74 cx hg hQ ho h
  | 75, _, ho, h => exact z_75 cx hg hQ ho h
  | 76, _, ho, h => exact z_76 cx hg hQ ho h
  | 5, _, ho, h => exact absurd (Or.inr rfl) hbig
  | 77, _, ho, h =>
    obtain ⟨v, τ, e1, -⟩ := hQ
    cases st with
    | cons _ _ =>
      replace h : none = some r := h
      cases h
    | nil =>
      replace h : some (Sum.inr oa, σ) = some r := h
      cases h
      cases e1
  | _ + 78, hl, _, _ => omega
end SNC
def q_rmd (d : Nat) : Room := { frames := d + 1, cells := 0, slots := 0, locals := 49 * d + 60 }
section RUN
variable {pr : Nat → Nat → Option Op} {mt : Nat → MRow} {n : Nat} {l : Launch} {D : va_G} {cy : Nat → ClassId} {ad : Nat → Nat → Nat} {A : Nat → Prop}
/-- a run of the interpreter that answers is a run of the machine, from any frame on -/
theorem q_frame (hpr : ∀ k pc o, pr k pc = some o → q_okB mt k pc o = true) (d : Nat)
    (hd : ∀ d', d = d' + 1 → ∀ (f k : Nat) (vs : List PV) (σ : J) (v : Option PV) (σ1 : J), q_run pr n d' f k 0 (q_args 0 vs) [] σ = some (.inl v, σ1) → (vs.map q_cat).sum ≤ (mt k).2.2.1 → q_oks n vs → q_CT l mt (q_rmd d') D cy ad n A k vs σ v σ1)
    {p : Program} {e : Env} {R : Room} {s : State} {m : MethodId} {args : Array Value} {below : List Frame} {meth : Method} {c : Code} {k cells slots : Nat} (cx : q_Cx mt p s m meth c args k D cy n ad A R cells slots) (hfr : d + 1 ≤ R.frames) (hlo : 49 * d + 60 ≤ R.locals) {v : Option PV} {σ1 : J} :
    ∀ (f pc : Nat) (L : PL) (st : List PV) (σ : J), q_run pr n d f k pc L st σ = some (.inl v, σ1) → q_W mt p l e R s m args below meth c (MQ below (q_Q D cy ad n A (v.map (q_tv ad)) σ1) args s cells slots A) D cy ad n A k cells slots pc L st σ := by
  intro f
  induction f with
  | zero => intro pc L st σ h; cases h
  | succ f ih =>
    intro pc L st σ h
    unfold q_run at h
    cases ho : pr k pc with
    | none => rw [ho] at h; cases h
    | some o =>
      rw [ho] at h
      obtain ⟨ci, ox, oa, ob, ol⟩ := o
      have hok := hpr k pc _ ho
      cases d with
      | zero => exact q_all (rm := { frames := 0, cells := 0, slots := 0, locals := 0 }) cx ih ⟨rfl, rfl, hfr, by show 49 + 0 ≤ _; omega⟩ (fun _ _ _ _ _ hz => by cases hz) ⟨v, σ1, rfl, rfl⟩ hok h
      | succ d' => exact q_all (rm := q_rmd d') cx ih ⟨rfl, rfl, hfr, by show 49 + (49 * d' + 60) ≤ _; omega⟩ (fun k1 vs τ v τ1 hz => hd d' rfl f k1 vs τ v τ1 hz) ⟨v, σ1, rfl, rfl⟩ hok h
theorem q_met1 (hI : ∀ cn, va_D A (wl (idj n) ad cn)) (hpr : ∀ k pc o, pr k pc = some o → q_okB mt k pc o = true) (hpl : ∀ k, plainName (mt k).1.cls = true) (d : Nat)
    (hd : ∀ d', d = d' + 1 → ∀ (f k : Nat) (vs : List PV) (σ : J) (v : Option PV) (σ1 : J), q_run pr n d' f k 0 (q_args 0 vs) [] σ = some (.inl v, σ1) → (vs.map q_cat).sum ≤ (mt k).2.2.1 → q_oks n vs → q_CT l mt (q_rmd d') D cy ad n A k vs σ v σ1)
    (f k : Nat) (vs : List PV) (σ : J) (v : Option PV) (σ1 : J) (h : q_run pr n d f k 0 (q_args 0 vs) [] σ = some (.inl v, σ1)) (hw : (vs.map q_cat).sum ≤ (mt k).2.2.1) (hk : q_oks n vs) : q_CT l mt (q_rmd d) D cy ad n A k vs σ v σ1 := by
  refine Met.ofW (cc := (mt k).2.1) (maxL := (mt k).2.2.1) (ret := (mt k).2.2.2) (hpl k) rfl ?_
  intro p e s m args below meth c s₁ B hml hv
  obtain ⟨rfl, hP, hK⟩ := hv
  rw [lg_entry_eq]
  have cx : q_Cx mt p s m meth c (vs.map (q_tv ad)).toArray k D cy n ad A (q_rmd d) 0 0 := ⟨B.exec, B.bytes, hml, findClass_of_methodNamed B.named, fun w h => atoms_spec (ws := Cond.code (mt k).1 (mt k).2.1 (mt k).2.2.1 (mt k).2.2.2 :: gt) B.pre w (List.mem_cons_of_mem _ h), hK, B.returns, B.notSynchronized, hI, Nat.le_add_left 1 d, by show 40 ≤ 49 * d + 60; omega, Nat.le_refl 0, Nat.le_refl 0⟩
  have he := lv_entry (vs.map (q_tv ad)) (n := (mt k).2.2.1) (by rw [q_sl_len, q_cats]; exact hw)
  exact q_frame hpr d hd cx (Nat.le_refl _) (Nat.le_refl _) f 0 (q_args 0 vs) [] σ h s.heap [] _ hP va_S.rf (q_args_has he) (fun b w hb => q_oks_iff.mp hk _ (q_args_in (ad := ad) hb).1) trivial
/-- every run of the interpreter that answers is a contract of the machine -/
theorem q_met (hI : ∀ cn, va_D A (wl (idj n) ad cn)) (hpr : ∀ k pc o, pr k pc = some o → q_okB mt k pc o = true) (hpl : ∀ k, plainName (mt k).1.cls = true) :
    ∀ (d f k : Nat) (vs : List PV) (σ : J) (v : Option PV) (σ1 : J), q_run pr n d f k 0 (q_args 0 vs) [] σ = some (.inl v, σ1) → (vs.map q_cat).sum ≤ (mt k).2.2.1 → q_oks n vs → q_CT l mt (q_rmd d) D cy ad n A k vs σ v σ1 := by
  intro d
  induction d with
  | zero => exact q_met1 hI hpr hpl 0 (fun d' h => by omega)
  | succ d ih => exact q_met1 hI hpr hpl (d + 1) (fun d' h => by
      obtain rfl : d = d' := by omega
      exact ih)
end RUN

