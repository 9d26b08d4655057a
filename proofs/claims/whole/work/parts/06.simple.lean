/-! Each step of the interpreter is a step of the machine: constants, locals, arithmetic, branches. Ours, written by sound.py -/
/-- the machine in a frame of method k at pc, with these locals, this operand stack, this state, comes to Q -/
def q_oks (n : Nat) : List PV → Prop
  | [] => True
  | v :: r => q_ok n v = true ∧ q_oks n r
/-- what is known of the locals, as a list -/
def q_ll (ad : Nat → Nat → Nat) (nL : Nat) (L : PL) : List (Nat × Value) := (List.range nL).filterMap fun a => (L a).map fun v => (a, q_tv ad v)
def q_tn : List FieldType := [.int, .long, .boolean, .object "JobBoard$Session", .object "JobBoard$Tuple", .object "JobBoard$Pattern", .object "JobBoard$Order"]
def q_ty (cy : Nat → ClassId) : List (ClassId × FieldType) := [(cy 0, .int), (cy 1, .long), (cy 2, .boolean), (cy 3, .object "JobBoard$Session"), (cy 4, .object "JobBoard$Tuple"), (cy 5, .object "JobBoard$Pattern"), (cy 6, .object "JobBoard$Order")]
def q_Cx (mt : Nat → MRow) (p : Program) (s : State) (m : MethodId) (meth : Method) (c : Code) (args : Array Value) (k : Nat) (D : va_G) (cy : Nat → ClassId) (n : Nat) (ad : Nat → Nat → Nat) (A : Nat → Prop) (R : Room) (cells slots : Nat) : Prop :=
  p.tables.exec = Jvm.exec ∧ c.code = (mt k).2.1 ∧ c.maxLocals = (mt k).2.2.1 ∧ s.vm.findClass (mt k).1.cls = some m.cls ∧ (∀ w ∈ gt, w.before args s = true) ∧ va_K D vcl (q_ty cy) s ∧ meth.sig.returnType = (mt k).2.2.2 ∧ meth.locks = false ∧ (∀ cn, va_D A (wl (idj n) ad cn)) ∧ 1 ≤ R.frames ∧ 40 ≤ R.locals ∧ cells ≤ R.cells ∧ slots ≤ R.slots
def q_W (mt : Nat → MRow) (p : Program) (l : Launch) (e : Env) (R : Room) (s : State) (m : MethodId) (args : Array Value) (below : List Frame) (meth : Method) (c : Code) (Q : State → Prop) (D : va_G) (cy : Nat → ClassId) (ad : Nat → Nat → Nat) (n : Nat) (A : Nat → Prop) (k cells slots pc : Nat) (L : PL) (st : List PV) (σ : J) : Prop :=
  ∀ (H : Heap) (locs : List Loc) (ls : Array Slot), WJ D cy ad n σ H → va_S A s.heap H locs → lv_has ls (mt k).2.2.1 (q_ll ad (mt k).2.2.1 L) → (∀ a v, L a = some v → q_ok n v = true) → q_oks n st → W p l e R s m args below meth c H locs cells slots Q (F0 m pc ls (st.map (q_tv ad)))
theorem q_pI_s {st : List PV} {q : Int32 × List PV} (h : q_pI st = some q) : st = .inl q.1 :: q.2 := by
  match st, h with
  | [], h => cases h
  | .inl x :: r, h => cases h; rfl
  | .inr _ :: _, h => cases h
theorem q_pL_s {st : List PV} {q : Int64 × List PV} (h : q_pL st = some q) : st = .inr (.inl q.1) :: q.2 := by
  match st, h with
  | [], h => cases h
  | .inl _ :: _, h => cases h
  | .inr (.inl x) :: r, h => cases h; rfl
  | .inr (.inr _) :: _, h => cases h
theorem q_pR_s {st : List PV} {q : (Nat × Nat) × List PV} (h : q_pR st = some q) : st = .inr (.inr (some q.1)) :: q.2 := by
  match st, h with
  | [], h => cases h
  | .inl _ :: _, h => cases h
  | .inr (.inl _) :: _, h => cases h
  | .inr (.inr none) :: _, h => cases h
  | .inr (.inr (some x)) :: r, h => cases h; rfl
theorem q_pN_s {st : List PV} {q : Option (Nat × Nat) × List PV} (h : q_pN st = some q) : st = .inr (.inr q.1) :: q.2 := by
  match st, h with
  | [], h => cases h
  | .inl _ :: _, h => cases h
  | .inr (.inl _) :: _, h => cases h
  | .inr (.inr x) :: r, h => cases h; rfl
theorem q_p1_s {st : List PV} {q : PV × List PV} (h : q_p1 st = some q) : st = q.1 :: q.2 := by
  match st, h with
  | [], h => cases h
  | .inl _ :: _, h => cases h; rfl
  | .inr (.inl _) :: _, h => cases h
  | .inr (.inr x) :: r, h => cases h; rfl
theorem q_cat_tv (ad : Nat → Nat → Nat) (v : PV) : (q_tv ad v).category = q_cat v := by
  match v with
  | .inl _ => rfl
  | .inr (.inl _) => rfl
  | .inr (.inr none) => rfl
  | .inr (.inr (some _)) => rfl
theorem q_p1_c {ad : Nat → Nat → Nat} {st : List PV} {q : PV × List PV} (h : q_p1 st = some q) : (q_tv ad q.1).category = 1 := by
  rw [q_cat_tv]
  match st, h with
  | [], h => cases h
  | .inl _ :: _, h => cases h; rfl
  | .inr (.inl _) :: _, h => cases h
  | .inr (.inr x) :: r, h => cases h; rfl
theorem q_ll_in {ad : Nat → Nat → Nat} {nL : Nat} {L : PL} {a : Nat} {v : PV} (ha : a < nL) (h : L a = some v) : (a, q_tv ad v) ∈ q_ll ad nL L := List.mem_filterMap.mpr ⟨a, List.mem_range.mpr ha, by rw [h]; rfl⟩
theorem q_ll_of {ad : Nat → Nat → Nat} {nL : Nat} {L : PL} {q : Nat × Value} (h : q ∈ q_ll ad nL L) : q.1 < nL ∧ ∃ v, L q.1 = some v ∧ q.2 = q_tv ad v := by
  obtain ⟨a, h1, h2⟩ := List.mem_filterMap.mp h
  cases hL : L a with
  | none => rw [hL] at h2; cases h2
  | some v =>
    rw [hL] at h2
    cases h2
    exact ⟨List.mem_range.mp h1, v, hL, rfl⟩
theorem q_ll_at {ad : Nat → Nat → Nat} {ls : Array Slot} {nL : Nat} {L : PL} {a : Nat} {v : PV} (hl : lv_has ls nL (q_ll ad nL L)) (ha : a < nL) (h : L a = some v) : ls[a]? = some (.val (q_tv ad v)) := hl.2.2 (a, q_tv ad v) (q_ll_in ha h)
theorem q_beq_ne {a b : Nat} (h : Nat.beq a b = false) : ¬ a = b := fun e => by
  subst e
  rw [Nat.beq_refl] at h
  cases h
theorem q_s1_has {ad : Nat → Nat → Nat} {ls : Array Slot} {nL : Nat} {L : PL} {a : Nat} {v : PV} (hl : lv_has ls nL ((a, q_tv ad v) :: (q_ll ad nL L).filter (fun q => !(q.1 == a) && !(q.1 + 1 == a && q.2.category == 2)))) : lv_has ls nL (q_ll ad nL (q_s1 L a v)) := by
  refine ⟨hl.1, hl.2.1, fun q hq => hl.2.2 q ?_⟩
  obtain ⟨h1, w, h2, h3⟩ := q_ll_of hq
  obtain ⟨b, u⟩ := q
  dsimp only at h1 h2 h3
  subst h3
  unfold q_s1 at h2
  cases hb : Nat.beq b a with
  | true =>
    rw [hb] at h2
    have h2 : some v = some w := h2
    cases h2
    obtain rfl := Nat.eq_of_beq_eq_true hb
    exact List.mem_cons_self
  | false =>
    rw [hb] at h2
    replace h2 : (bif Nat.beq (b + 1) a then (match L b with
      | some w => bif Nat.beq (q_cat w) 2 then none else some w
      | none => none) else L b) = some w := h2
    have hne := q_beq_ne hb
    refine List.mem_cons_of_mem _ (List.mem_filter.mpr ?_)
    cases hc : Nat.beq (b + 1) a with
    | true =>
      rw [hc] at h2
      cases hL : L b with
      | none => rw [hL] at h2; cases h2
      | some w' =>
        rw [hL] at h2
        replace h2 : (bif Nat.beq (q_cat w') 2 then none else some w') = some w := h2
        cases hd : Nat.beq (q_cat w') 2 with
        | true => rw [hd] at h2; cases h2
        | false =>
          rw [hd] at h2
          have h2 : some w' = some w := h2
          cases h2
          have := q_beq_ne hd
          exact ⟨q_ll_in h1 hL, by simp [hne, q_cat_tv, this]⟩
    | false =>
      rw [hc] at h2
      have := q_beq_ne hc
      exact ⟨q_ll_in h1 h2, by simp [hne, this]⟩
theorem q_s2_has {ad : Nat → Nat → Nat} {ls : Array Slot} {nL : Nat} {L : PL} {a : Nat} {v : PV} (hl : lv_has ls nL ((a, q_tv ad v) :: (q_ll ad nL L).filter (fun q => !(q.1 == a) && (!(q.1 == a + 1) && !(q.1 + 1 == a && q.2.category == 2))))) : lv_has ls nL (q_ll ad nL (q_s2 L a v)) := by
  refine ⟨hl.1, hl.2.1, fun q hq => hl.2.2 q ?_⟩
  obtain ⟨h1, w, h2, h3⟩ := q_ll_of hq
  obtain ⟨b, u⟩ := q
  dsimp only at h1 h2 h3
  subst h3
  unfold q_s2 at h2
  cases hb : Nat.beq b a with
  | true =>
    rw [hb] at h2
    have h2 : some v = some w := h2
    cases h2
    obtain rfl := Nat.eq_of_beq_eq_true hb
    exact List.mem_cons_self
  | false =>
    rw [hb] at h2
    replace h2 : (bif Nat.beq b (a + 1) then none else bif Nat.beq (b + 1) a then (match L b with
      | some w => bif Nat.beq (q_cat w) 2 then none else some w
      | none => none) else L b) = some w := h2
    have hne := q_beq_ne hb
    refine List.mem_cons_of_mem _ (List.mem_filter.mpr ?_)
    cases hx : Nat.beq b (a + 1) with
    | true => rw [hx] at h2; cases h2
    | false =>
      rw [hx] at h2
      replace h2 : (bif Nat.beq (b + 1) a then (match L b with
        | some w => bif Nat.beq (q_cat w) 2 then none else some w
        | none => none) else L b) = some w := h2
      have hnx := q_beq_ne hx
      cases hc : Nat.beq (b + 1) a with
      | true =>
        rw [hc] at h2
        cases hL : L b with
        | none => rw [hL] at h2; cases h2
        | some w' =>
          rw [hL] at h2
          replace h2 : (bif Nat.beq (q_cat w') 2 then none else some w') = some w := h2
          cases hd : Nat.beq (q_cat w') 2 with
          | true => rw [hd] at h2; cases h2
          | false =>
            rw [hd] at h2
            have h2 : some w' = some w := h2
            cases h2
            have := q_beq_ne hd
            exact ⟨q_ll_in h1 hL, by simp [hne, hnx, q_cat_tv, this]⟩
      | false =>
        rw [hc] at h2
        have := q_beq_ne hc
        exact ⟨q_ll_in h1 h2, by simp [hne, hnx, this]⟩
theorem q_s1_le {L : PL} {a b : Nat} {v w : PV} (h : q_s1 L a v b = some w) : w = v ∨ L b = some w := by
  unfold q_s1 at h
  cases hb : Nat.beq b a with
  | true =>
    rw [hb] at h
    have h : some v = some w := h
    cases h
    exact Or.inl rfl
  | false =>
    rw [hb] at h
    replace h : (bif Nat.beq (b + 1) a then (match L b with
      | some w => bif Nat.beq (q_cat w) 2 then none else some w
      | none => none) else L b) = some w := h
    cases hc : Nat.beq (b + 1) a with
    | true =>
      rw [hc] at h
      cases hL : L b with
      | none => rw [hL] at h; cases h
      | some w' =>
        rw [hL] at h
        replace h : (bif Nat.beq (q_cat w') 2 then none else some w') = some w := h
        cases hd : Nat.beq (q_cat w') 2 with
        | true => rw [hd] at h; cases h
        | false => rw [hd] at h; exact Or.inr h
    | false => rw [hc] at h; exact Or.inr h
theorem q_s2_le {L : PL} {a b : Nat} {v w : PV} (h : q_s2 L a v b = some w) : w = v ∨ L b = some w := by
  unfold q_s2 at h
  cases hb : Nat.beq b a with
  | true =>
    rw [hb] at h
    have h : some v = some w := h
    cases h
    exact Or.inl rfl
  | false =>
    rw [hb] at h
    replace h : (bif Nat.beq b (a + 1) then none else bif Nat.beq (b + 1) a then (match L b with
      | some w => bif Nat.beq (q_cat w) 2 then none else some w
      | none => none) else L b) = some w := h
    cases hx : Nat.beq b (a + 1) with
    | true => rw [hx] at h; cases h
    | false =>
      rw [hx] at h
      replace h : (bif Nat.beq (b + 1) a then (match L b with
        | some w => bif Nat.beq (q_cat w) 2 then none else some w
        | none => none) else L b) = some w := h
      cases hc : Nat.beq (b + 1) a with
      | true =>
        rw [hc] at h
        cases hL : L b with
        | none => rw [hL] at h; cases h
        | some w' =>
          rw [hL] at h
          replace h : (bif Nat.beq (q_cat w') 2 then none else some w') = some w := h
          cases hd : Nat.beq (q_cat w') 2 with
          | true => rw [hd] at h; cases h
          | false => rw [hd] at h; exact Or.inr h
      | false => rw [hc] at h; exact Or.inr h
theorem q_s1_ok {n : Nat} {L : PL} {a : Nat} {v : PV} (hL : ∀ b w, L b = some w → q_ok n w = true) (hv : q_ok n v = true) : ∀ b w, q_s1 L a v b = some w → q_ok n w = true := by
  intro b w h
  rcases q_s1_le h with rfl | h
  · exact hv
  · exact hL b w h
theorem q_s2_ok {n : Nat} {L : PL} {a : Nat} {v : PV} (hL : ∀ b w, L b = some w → q_ok n w = true) (hv : q_ok n v = true) : ∀ b w, q_s2 L a v b = some w → q_ok n w = true := by
  intro b w h
  rcases q_s2_le h with rfl | h
  · exact hv
  · exact hL b w h
section SND
variable {mt : Nat → MRow} {p : Program} {l : Launch} {e : Env} {R : Room} {s : State} {m : MethodId} {args : Array Value} {below : List Frame} {meth : Method} {c : Code} {Q : State → Prop} {D : va_G} {cy : Nat → ClassId} {ad : Nat → Nat → Nat} {n k cells slots pc : Nat} {A : Nat → Prop} {g : Nat → PL → List PV → J → Option Res} {cal : Nat → List PV → J → Option Res} {r : Res} {L : PL} {st : List PV} {σ : J} {ox : Int} {oa ob : Nat} {ol : List Nat}
theorem z_0 (cx : q_Cx mt p s m meth c args k D cy n ad A R cells slots) (hg : ∀ pc L st σ, g pc L st σ = some r → q_W mt p l e R s m args below meth c Q D cy ad n A k cells slots pc L st σ) (ho : q_okB mt k pc (0, ox, oa, ob, ol) = true) (h : q_stp n g cal pc (0, ox, oa, ob, ol) L st σ = some r) : q_W mt p l e R s m args below meth c Q D cy ad n A k cells slots pc L st σ := by
  replace ho : q_dc (mt k).2.1 pc (.iconst ox) 1 = true := ho
  replace h : (g (pc + 1) L (.inl (Int32.ofInt ox) :: st) σ) = some r := h
  intro H locs ls hP hS hl hL hst
  exact lv_iconst cx.1 cx.2.1 (q_dd ho) rfl (hg _ _ _ _ h H locs ls hP hS hl hL ⟨rfl, hst⟩)
theorem z_1 (cx : q_Cx mt p s m meth c args k D cy n ad A R cells slots) (hg : ∀ pc L st σ, g pc L st σ = some r → q_W mt p l e R s m args below meth c Q D cy ad n A k cells slots pc L st σ) (ho : q_okB mt k pc (1, ox, oa, ob, ol) = true) (h : q_stp n g cal pc (1, ox, oa, ob, ol) L st σ = some r) : q_W mt p l e R s m args below meth c Q D cy ad n A k cells slots pc L st σ := by
  replace ho : (q_dc (mt k).2.1 pc (.bipush ox) 2 && decide ((Int8.ofInt ox).toInt32 = Int32.ofInt ox)) = true := ho
  simp only [Bool.and_eq_true] at ho
  replace h : (g (pc + 2) L (.inl (Int32.ofInt ox) :: st) σ) = some r := h
  intro H locs ls hP hS hl hL hst
  exact lv_bipush cx.1 cx.2.1 (q_dd ho.1) (of_decide_eq_true ho.2) (hg _ _ _ _ h H locs ls hP hS hl hL ⟨rfl, hst⟩)
theorem z_2 (cx : q_Cx mt p s m meth c args k D cy n ad A R cells slots) (hg : ∀ pc L st σ, g pc L st σ = some r → q_W mt p l e R s m args below meth c Q D cy ad n A k cells slots pc L st σ) (ho : q_okB mt k pc (2, ox, oa, ob, ol) = true) (h : q_stp n g cal pc (2, ox, oa, ob, ol) L st σ = some r) : q_W mt p l e R s m args below meth c Q D cy ad n A k cells slots pc L st σ := by
  replace ho : (q_dc (mt k).2.1 pc (.sipush ox) 3 && decide ((Int16.ofInt ox).toInt32 = Int32.ofInt ox)) = true := ho
  simp only [Bool.and_eq_true] at ho
  replace h : (g (pc + 3) L (.inl (Int32.ofInt ox) :: st) σ) = some r := h
  intro H locs ls hP hS hl hL hst
  exact lv_sipush cx.1 cx.2.1 (q_dd ho.1) (of_decide_eq_true ho.2) (hg _ _ _ _ h H locs ls hP hS hl hL ⟨rfl, hst⟩)
theorem z_3 (cx : q_Cx mt p s m meth c args k D cy n ad A R cells slots) (hg : ∀ pc L st σ, g pc L st σ = some r → q_W mt p l e R s m args below meth c Q D cy ad n A k cells slots pc L st σ) (ho : q_okB mt k pc (3, ox, oa, ob, ol) = true) (h : q_stp n g cal pc (3, ox, oa, ob, ol) L st σ = some r) : q_W mt p l e R s m args below meth c Q D cy ad n A k cells slots pc L st σ := by
  replace ho : (q_dc (mt k).2.1 pc (.lconst (Fin.ofNat 2 oa)) 1 && decide (Int64.ofNat ((Fin.ofNat 2 oa : Fin 2) : Nat) = Int64.ofInt ox)) = true := ho
  simp only [Bool.and_eq_true] at ho
  replace h : (g (pc + 1) L (.inr (.inl (Int64.ofInt ox)) :: st) σ) = some r := h
  intro H locs ls hP hS hl hL hst
  exact lv_lconst cx.1 cx.2.1 (q_dd ho.1) (of_decide_eq_true ho.2) (hg _ _ _ _ h H locs ls hP hS hl hL ⟨rfl, hst⟩)
theorem z_4 (cx : q_Cx mt p s m meth c args k D cy n ad A R cells slots) (hg : ∀ pc L st σ, g pc L st σ = some r → q_W mt p l e R s m args below meth c Q D cy ad n A k cells slots pc L st σ) (ho : q_okB mt k pc (4, ox, oa, ob, ol) = true) (h : q_stp n g cal pc (4, ox, oa, ob, ol) L st σ = some r) : q_W mt p l e R s m args below meth c Q D cy ad n A k cells slots pc L st σ := by
  replace ho : (q_dc (mt k).2.1 pc (.ldc2_w oa) 3 && q_wd ob (.constantLong (mt k).1.cls oa (Int64.ofInt ox))) = true := ho
  simp only [Bool.and_eq_true] at ho
  replace h : g (pc + 3) L (.inr (.inl (Int64.ofInt ox)) :: st) σ = some r := h
  intro H locs ls hP hS hl hL hst
  exact lv_ldc2 cx.1 cx.2.1 cx.2.2.2.1 (cx.2.2.2.2.1 _ (q_wd_in ho.2)) (q_dd ho.1) (hg _ _ _ _ h H locs ls hP hS hl hL ⟨rfl, hst⟩)
theorem z_6 (cx : q_Cx mt p s m meth c args k D cy n ad A R cells slots) (hg : ∀ pc L st σ, g pc L st σ = some r → q_W mt p l e R s m args below meth c Q D cy ad n A k cells slots pc L st σ) (ho : q_okB mt k pc (6, ox, oa, ob, ol) = true) (h : q_stp n g cal pc (6, ox, oa, ob, ol) L st σ = some r) : q_W mt p l e R s m args below meth c Q D cy ad n A k cells slots pc L st σ := by
  replace ho : (q_dc (mt k).2.1 pc (.iload_n (Fin.ofNat 4 oa)) 1 && decide (((Fin.ofNat 4 oa : Fin 4) : Nat) = oa) && Nat.blt oa (mt k).2.2.1) = true := ho
  simp only [Bool.and_eq_true] at ho
  replace h : ((L oa).bind fun v => (q_pI (v :: st)).bind fun _ => g (pc + 1) L (v :: st) σ) = some r := h
  obtain ⟨v, e_v, h⟩ := Option.bind_eq_some_iff.mp h
  obtain ⟨w, e_w, h⟩ := Option.bind_eq_some_iff.mp h
  have e_1 := (List.cons.inj (q_pI_s e_w)).1
  intro H locs ls hP hS hl hL hst
  have h1 := q_ll_at hl (Nat.blt_eq.mp ho.2) e_v
  have h2 := hL _ _ e_v
  have h3 := hg _ _ _ _ h H locs ls hP hS hl hL ⟨h2, hst⟩
  rw [e_1] at h1 h3
  exact lv_iload_n cx.1 cx.2.1 (q_dd ho.1.1) (of_decide_eq_true ho.1.2) h1 h3
theorem z_7 (cx : q_Cx mt p s m meth c args k D cy n ad A R cells slots) (hg : ∀ pc L st σ, g pc L st σ = some r → q_W mt p l e R s m args below meth c Q D cy ad n A k cells slots pc L st σ) (ho : q_okB mt k pc (7, ox, oa, ob, ol) = true) (h : q_stp n g cal pc (7, ox, oa, ob, ol) L st σ = some r) : q_W mt p l e R s m args below meth c Q D cy ad n A k cells slots pc L st σ := by
  replace ho : (q_dc (mt k).2.1 pc (.iload oa) 2 && Nat.blt oa (mt k).2.2.1) = true := ho
  simp only [Bool.and_eq_true] at ho
  replace h : ((L oa).bind fun v => (q_pI (v :: st)).bind fun _ => g (pc + 2) L (v :: st) σ) = some r := h
  obtain ⟨v, e_v, h⟩ := Option.bind_eq_some_iff.mp h
  obtain ⟨w, e_w, h⟩ := Option.bind_eq_some_iff.mp h
  have e_1 := (List.cons.inj (q_pI_s e_w)).1
  intro H locs ls hP hS hl hL hst
  have h1 := q_ll_at hl (Nat.blt_eq.mp ho.2) e_v
  have h2 := hL _ _ e_v
  have h3 := hg _ _ _ _ h H locs ls hP hS hl hL ⟨h2, hst⟩
  rw [e_1] at h1 h3
  exact lv_iload cx.1 cx.2.1 (q_dd ho.1) h1 h3
theorem z_8 (cx : q_Cx mt p s m meth c args k D cy n ad A R cells slots) (hg : ∀ pc L st σ, g pc L st σ = some r → q_W mt p l e R s m args below meth c Q D cy ad n A k cells slots pc L st σ) (ho : q_okB mt k pc (8, ox, oa, ob, ol) = true) (h : q_stp n g cal pc (8, ox, oa, ob, ol) L st σ = some r) : q_W mt p l e R s m args below meth c Q D cy ad n A k cells slots pc L st σ := by
  replace ho : (q_dc (mt k).2.1 pc (.lload_n (Fin.ofNat 4 oa)) 1 && decide (((Fin.ofNat 4 oa : Fin 4) : Nat) = oa) && Nat.blt oa (mt k).2.2.1) = true := ho
  simp only [Bool.and_eq_true] at ho
  replace h : ((L oa).bind fun v => (q_pL (v :: st)).bind fun _ => g (pc + 1) L (v :: st) σ) = some r := h
  obtain ⟨v, e_v, h⟩ := Option.bind_eq_some_iff.mp h
  obtain ⟨w, e_w, h⟩ := Option.bind_eq_some_iff.mp h
  have e_1 := (List.cons.inj (q_pL_s e_w)).1
  intro H locs ls hP hS hl hL hst
  have h1 := q_ll_at hl (Nat.blt_eq.mp ho.2) e_v
  have h2 := hL _ _ e_v
  have h3 := hg _ _ _ _ h H locs ls hP hS hl hL ⟨h2, hst⟩
  rw [e_1] at h1 h3
  exact lv_lload_n cx.1 cx.2.1 (q_dd ho.1.1) (of_decide_eq_true ho.1.2) h1 h3
theorem z_9 (cx : q_Cx mt p s m meth c args k D cy n ad A R cells slots) (hg : ∀ pc L st σ, g pc L st σ = some r → q_W mt p l e R s m args below meth c Q D cy ad n A k cells slots pc L st σ) (ho : q_okB mt k pc (9, ox, oa, ob, ol) = true) (h : q_stp n g cal pc (9, ox, oa, ob, ol) L st σ = some r) : q_W mt p l e R s m args below meth c Q D cy ad n A k cells slots pc L st σ := by
  replace ho : (q_dc (mt k).2.1 pc (.lload oa) 2 && Nat.blt oa (mt k).2.2.1) = true := ho
  simp only [Bool.and_eq_true] at ho
  replace h : ((L oa).bind fun v => (q_pL (v :: st)).bind fun _ => g (pc + 2) L (v :: st) σ) = some r := h
  obtain ⟨v, e_v, h⟩ := Option.bind_eq_some_iff.mp h
  obtain ⟨w, e_w, h⟩ := Option.bind_eq_some_iff.mp h
  have e_1 := (List.cons.inj (q_pL_s e_w)).1
  intro H locs ls hP hS hl hL hst
  have h1 := q_ll_at hl (Nat.blt_eq.mp ho.2) e_v
  have h2 := hL _ _ e_v
  have h3 := hg _ _ _ _ h H locs ls hP hS hl hL ⟨h2, hst⟩
  rw [e_1] at h1 h3
  exact lv_lload cx.1 cx.2.1 (q_dd ho.1) h1 h3
theorem z_10 (cx : q_Cx mt p s m meth c args k D cy n ad A R cells slots) (hg : ∀ pc L st σ, g pc L st σ = some r → q_W mt p l e R s m args below meth c Q D cy ad n A k cells slots pc L st σ) (ho : q_okB mt k pc (10, ox, oa, ob, ol) = true) (h : q_stp n g cal pc (10, ox, oa, ob, ol) L st σ = some r) : q_W mt p l e R s m args below meth c Q D cy ad n A k cells slots pc L st σ := by
  replace ho : (q_dc (mt k).2.1 pc (.aload_n (Fin.ofNat 4 oa)) 1 && decide (((Fin.ofNat 4 oa : Fin 4) : Nat) = oa) && Nat.blt oa (mt k).2.2.1) = true := ho
  simp only [Bool.and_eq_true] at ho
  replace h : ((L oa).bind fun v => (q_pN (v :: st)).bind fun _ => g (pc + 1) L (v :: st) σ) = some r := h
  obtain ⟨v, e_v, h⟩ := Option.bind_eq_some_iff.mp h
  obtain ⟨w, e_w, h⟩ := Option.bind_eq_some_iff.mp h
  have e_1 := (List.cons.inj (q_pN_s e_w)).1
  intro H locs ls hP hS hl hL hst
  have h1 := q_ll_at hl (Nat.blt_eq.mp ho.2) e_v
  have h2 := hL _ _ e_v
  have h3 := hg _ _ _ _ h H locs ls hP hS hl hL ⟨h2, hst⟩
  rw [e_1] at h1 h3
  obtain ⟨w1, w2⟩ := w
  cases w1 with
  | none => exact lv_aload_nN cx.1 cx.2.1 (q_dd ho.1.1) (of_decide_eq_true ho.1.2) h1 h3
  | some q => exact lv_aload_n cx.1 cx.2.1 (q_dd ho.1.1) (of_decide_eq_true ho.1.2) h1 h3
theorem z_11 (cx : q_Cx mt p s m meth c args k D cy n ad A R cells slots) (hg : ∀ pc L st σ, g pc L st σ = some r → q_W mt p l e R s m args below meth c Q D cy ad n A k cells slots pc L st σ) (ho : q_okB mt k pc (11, ox, oa, ob, ol) = true) (h : q_stp n g cal pc (11, ox, oa, ob, ol) L st σ = some r) : q_W mt p l e R s m args below meth c Q D cy ad n A k cells slots pc L st σ := by
  replace ho : (q_dc (mt k).2.1 pc (.aload oa) 2 && Nat.blt oa (mt k).2.2.1) = true := ho
  simp only [Bool.and_eq_true] at ho
  replace h : ((L oa).bind fun v => (q_pN (v :: st)).bind fun _ => g (pc + 2) L (v :: st) σ) = some r := h
  obtain ⟨v, e_v, h⟩ := Option.bind_eq_some_iff.mp h
  obtain ⟨w, e_w, h⟩ := Option.bind_eq_some_iff.mp h
  have e_1 := (List.cons.inj (q_pN_s e_w)).1
  intro H locs ls hP hS hl hL hst
  have h1 := q_ll_at hl (Nat.blt_eq.mp ho.2) e_v
  have h2 := hL _ _ e_v
  have h3 := hg _ _ _ _ h H locs ls hP hS hl hL ⟨h2, hst⟩
  rw [e_1] at h1 h3
  obtain ⟨w1, w2⟩ := w
  cases w1 with
  | none => exact lv_aloadN cx.1 cx.2.1 (q_dd ho.1) h1 h3
  | some q => exact lv_aload cx.1 cx.2.1 (q_dd ho.1) h1 h3
theorem z_12 (cx : q_Cx mt p s m meth c args k D cy n ad A R cells slots) (hg : ∀ pc L st σ, g pc L st σ = some r → q_W mt p l e R s m args below meth c Q D cy ad n A k cells slots pc L st σ) (ho : q_okB mt k pc (12, ox, oa, ob, ol) = true) (h : q_stp n g cal pc (12, ox, oa, ob, ol) L st σ = some r) : q_W mt p l e R s m args below meth c Q D cy ad n A k cells slots pc L st σ := by
  replace ho : (q_dc (mt k).2.1 pc (.istore_n (Fin.ofNat 4 oa)) 1 && decide (((Fin.ofNat 4 oa : Fin 4) : Nat) = oa) && Nat.blt oa (mt k).2.2.1) = true := ho
  simp only [Bool.and_eq_true] at ho
  replace h : ((q_pI st).bind fun q => g (pc + 1) (q_s1 L oa (.inl q.1)) q.2 σ) = some r := h
  obtain ⟨q, e_q, h⟩ := Option.bind_eq_some_iff.mp h
  rw [q_pI_s e_q]
  intro H locs ls hP hS hl hL hst
  exact lv_istore_n cx.1 cx.2.1 (q_dd ho.1.1) (of_decide_eq_true ho.1.2) hl (Nat.blt_eq.mp ho.2) rfl (fun ls' hl' => hg _ _ _ _ h H locs ls' hP hS (q_s1_has hl') (q_s1_ok hL hst.1) hst.2)
theorem z_13 (cx : q_Cx mt p s m meth c args k D cy n ad A R cells slots) (hg : ∀ pc L st σ, g pc L st σ = some r → q_W mt p l e R s m args below meth c Q D cy ad n A k cells slots pc L st σ) (ho : q_okB mt k pc (13, ox, oa, ob, ol) = true) (h : q_stp n g cal pc (13, ox, oa, ob, ol) L st σ = some r) : q_W mt p l e R s m args below meth c Q D cy ad n A k cells slots pc L st σ := by
  replace ho : (q_dc (mt k).2.1 pc (.istore oa) 2 && Nat.blt oa (mt k).2.2.1) = true := ho
  simp only [Bool.and_eq_true] at ho
  replace h : ((q_pI st).bind fun q => g (pc + 2) (q_s1 L oa (.inl q.1)) q.2 σ) = some r := h
  obtain ⟨q, e_q, h⟩ := Option.bind_eq_some_iff.mp h
  rw [q_pI_s e_q]
  intro H locs ls hP hS hl hL hst
  exact lv_istore cx.1 cx.2.1 (q_dd ho.1) hl (Nat.blt_eq.mp ho.2) rfl (fun ls' hl' => hg _ _ _ _ h H locs ls' hP hS (q_s1_has hl') (q_s1_ok hL hst.1) hst.2)
theorem z_14 (cx : q_Cx mt p s m meth c args k D cy n ad A R cells slots) (hg : ∀ pc L st σ, g pc L st σ = some r → q_W mt p l e R s m args below meth c Q D cy ad n A k cells slots pc L st σ) (ho : q_okB mt k pc (14, ox, oa, ob, ol) = true) (h : q_stp n g cal pc (14, ox, oa, ob, ol) L st σ = some r) : q_W mt p l e R s m args below meth c Q D cy ad n A k cells slots pc L st σ := by
  replace ho : (q_dc (mt k).2.1 pc (.lstore_n (Fin.ofNat 4 oa)) 1 && decide (((Fin.ofNat 4 oa : Fin 4) : Nat) = oa) && Nat.blt (oa + 1) (mt k).2.2.1) = true := ho
  simp only [Bool.and_eq_true] at ho
  replace h : ((q_pL st).bind fun q => g (pc + 1) (q_s2 L oa (.inr (.inl q.1))) q.2 σ) = some r := h
  obtain ⟨q, e_q, h⟩ := Option.bind_eq_some_iff.mp h
  rw [q_pL_s e_q]
  intro H locs ls hP hS hl hL hst
  exact lv_lstore_n cx.1 cx.2.1 (q_dd ho.1.1) (of_decide_eq_true ho.1.2) hl (Nat.blt_eq.mp ho.2) rfl (fun ls' hl' => hg _ _ _ _ h H locs ls' hP hS (q_s2_has hl') (q_s2_ok hL hst.1) hst.2)
theorem z_15 (cx : q_Cx mt p s m meth c args k D cy n ad A R cells slots) (hg : ∀ pc L st σ, g pc L st σ = some r → q_W mt p l e R s m args below meth c Q D cy ad n A k cells slots pc L st σ) (ho : q_okB mt k pc (15, ox, oa, ob, ol) = true) (h : q_stp n g cal pc (15, ox, oa, ob, ol) L st σ = some r) : q_W mt p l e R s m args below meth c Q D cy ad n A k cells slots pc L st σ := by
  replace ho : (q_dc (mt k).2.1 pc (.lstore oa) 2 && Nat.blt (oa + 1) (mt k).2.2.1) = true := ho
  simp only [Bool.and_eq_true] at ho
  replace h : ((q_pL st).bind fun q => g (pc + 2) (q_s2 L oa (.inr (.inl q.1))) q.2 σ) = some r := h
  obtain ⟨q, e_q, h⟩ := Option.bind_eq_some_iff.mp h
  rw [q_pL_s e_q]
  intro H locs ls hP hS hl hL hst
  exact lv_lstore cx.1 cx.2.1 (q_dd ho.1) hl (Nat.blt_eq.mp ho.2) rfl (fun ls' hl' => hg _ _ _ _ h H locs ls' hP hS (q_s2_has hl') (q_s2_ok hL hst.1) hst.2)
theorem z_16 (cx : q_Cx mt p s m meth c args k D cy n ad A R cells slots) (hg : ∀ pc L st σ, g pc L st σ = some r → q_W mt p l e R s m args below meth c Q D cy ad n A k cells slots pc L st σ) (ho : q_okB mt k pc (16, ox, oa, ob, ol) = true) (h : q_stp n g cal pc (16, ox, oa, ob, ol) L st σ = some r) : q_W mt p l e R s m args below meth c Q D cy ad n A k cells slots pc L st σ := by
  replace ho : (q_dc (mt k).2.1 pc (.astore_n (Fin.ofNat 4 oa)) 1 && decide (((Fin.ofNat 4 oa : Fin 4) : Nat) = oa) && Nat.blt oa (mt k).2.2.1) = true := ho
  simp only [Bool.and_eq_true] at ho
  replace h : ((q_pN st).bind fun q => g (pc + 1) (q_s1 L oa (.inr (.inr q.1))) q.2 σ) = some r := h
  obtain ⟨q, e_q, h⟩ := Option.bind_eq_some_iff.mp h
  rw [q_pN_s e_q]
  intro H locs ls hP hS hl hL hst
  obtain ⟨w1, w2⟩ := q
  cases w1 with
  | none => exact lv_astore_nN cx.1 cx.2.1 (q_dd ho.1.1) (of_decide_eq_true ho.1.2) hl (Nat.blt_eq.mp ho.2) rfl (fun ls' hl' => hg _ _ _ _ h H locs ls' hP hS (q_s1_has hl') (q_s1_ok hL hst.1) hst.2)
  | some q => exact lv_astore_n cx.1 cx.2.1 (q_dd ho.1.1) (of_decide_eq_true ho.1.2) hl (Nat.blt_eq.mp ho.2) rfl (fun ls' hl' => hg _ _ _ _ h H locs ls' hP hS (q_s1_has hl') (q_s1_ok hL hst.1) hst.2)
theorem z_17 (cx : q_Cx mt p s m meth c args k D cy n ad A R cells slots) (hg : ∀ pc L st σ, g pc L st σ = some r → q_W mt p l e R s m args below meth c Q D cy ad n A k cells slots pc L st σ) (ho : q_okB mt k pc (17, ox, oa, ob, ol) = true) (h : q_stp n g cal pc (17, ox, oa, ob, ol) L st σ = some r) : q_W mt p l e R s m args below meth c Q D cy ad n A k cells slots pc L st σ := by
  replace ho : (q_dc (mt k).2.1 pc (.astore oa) 2 && Nat.blt oa (mt k).2.2.1) = true := ho
  simp only [Bool.and_eq_true] at ho
  replace h : ((q_pN st).bind fun q => g (pc + 2) (q_s1 L oa (.inr (.inr q.1))) q.2 σ) = some r := h
  obtain ⟨q, e_q, h⟩ := Option.bind_eq_some_iff.mp h
  rw [q_pN_s e_q]
  intro H locs ls hP hS hl hL hst
  obtain ⟨w1, w2⟩ := q
  cases w1 with
  | none => exact lv_astoreN cx.1 cx.2.1 (q_dd ho.1) hl (Nat.blt_eq.mp ho.2) rfl (fun ls' hl' => hg _ _ _ _ h H locs ls' hP hS (q_s1_has hl') (q_s1_ok hL hst.1) hst.2)
  | some q => exact lv_astore cx.1 cx.2.1 (q_dd ho.1) hl (Nat.blt_eq.mp ho.2) rfl (fun ls' hl' => hg _ _ _ _ h H locs ls' hP hS (q_s1_has hl') (q_s1_ok hL hst.1) hst.2)
theorem z_18 (cx : q_Cx mt p s m meth c args k D cy n ad A R cells slots) (hg : ∀ pc L st σ, g pc L st σ = some r → q_W mt p l e R s m args below meth c Q D cy ad n A k cells slots pc L st σ) (ho : q_okB mt k pc (18, ox, oa, ob, ol) = true) (h : q_stp n g cal pc (18, ox, oa, ob, ol) L st σ = some r) : q_W mt p l e R s m args below meth c Q D cy ad n A k cells slots pc L st σ := by
  replace ho : (q_dc (mt k).2.1 pc (.iinc oa ox) 3 && Nat.blt oa (mt k).2.2.1) = true := ho
  simp only [Bool.and_eq_true] at ho
  replace h : ((L oa).bind fun v => (q_pI [v]).bind fun q => g (pc + 3) (q_s1 L oa (.inl (q.1 + Int32.ofInt ox))) st σ) = some r := h
  obtain ⟨v, e_v, h⟩ := Option.bind_eq_some_iff.mp h
  obtain ⟨q, e_q, h⟩ := Option.bind_eq_some_iff.mp h
  have e_1 := (List.cons.inj (q_pI_s e_q)).1
  intro H locs ls hP hS hl hL hst
  rw [e_1] at e_v
  have h2 : (oa, Value.int q.1) ∈ q_ll ad (mt k).2.2.1 L := q_ll_in (Nat.blt_eq.mp ho.2) e_v
  obtain ⟨j, hj⟩ := List.getElem?_of_mem h2
  exact lv_iinc (k := j) cx.1 cx.2.1 (q_dd ho.1) hl hj rfl (Nat.blt_eq.mp ho.2) rfl (fun ls' hl' => hg _ _ _ _ h H locs ls' hP hS (q_s1_has (v := .inl (q.1 + Int32.ofInt ox)) hl') (q_s1_ok hL rfl) hst)
theorem z_19 (cx : q_Cx mt p s m meth c args k D cy n ad A R cells slots) (hg : ∀ pc L st σ, g pc L st σ = some r → q_W mt p l e R s m args below meth c Q D cy ad n A k cells slots pc L st σ) (ho : q_okB mt k pc (19, ox, oa, ob, ol) = true) (h : q_stp n g cal pc (19, ox, oa, ob, ol) L st σ = some r) : q_W mt p l e R s m args below meth c Q D cy ad n A k cells slots pc L st σ := by
  replace ho : q_dc (mt k).2.1 pc .iadd 1 = true := ho
  replace h : ((q_pI st).bind fun y => (q_pI y.2).bind fun x => g (pc + 1) L (.inl (x.1 + y.1) :: x.2) σ) = some r := h
  obtain ⟨y, e_y, h⟩ := Option.bind_eq_some_iff.mp h
  obtain ⟨x, e_x, h⟩ := Option.bind_eq_some_iff.mp h
  rw [q_pI_s e_y, q_pI_s e_x]
  intro H locs ls hP hS hl hL hst
  exact lv_iadd cx.1 cx.2.1 (q_dd ho) (hg _ _ _ _ h H locs ls hP hS hl hL ⟨rfl, hst.2.2⟩)
theorem z_20 (cx : q_Cx mt p s m meth c args k D cy n ad A R cells slots) (hg : ∀ pc L st σ, g pc L st σ = some r → q_W mt p l e R s m args below meth c Q D cy ad n A k cells slots pc L st σ) (ho : q_okB mt k pc (20, ox, oa, ob, ol) = true) (h : q_stp n g cal pc (20, ox, oa, ob, ol) L st σ = some r) : q_W mt p l e R s m args below meth c Q D cy ad n A k cells slots pc L st σ := by
  replace ho : q_dc (mt k).2.1 pc .isub 1 = true := ho
  replace h : ((q_pI st).bind fun y => (q_pI y.2).bind fun x => g (pc + 1) L (.inl (x.1 - y.1) :: x.2) σ) = some r := h
  obtain ⟨y, e_y, h⟩ := Option.bind_eq_some_iff.mp h
  obtain ⟨x, e_x, h⟩ := Option.bind_eq_some_iff.mp h
  rw [q_pI_s e_y, q_pI_s e_x]
  intro H locs ls hP hS hl hL hst
  exact lv_isub cx.1 cx.2.1 (q_dd ho) (hg _ _ _ _ h H locs ls hP hS hl hL ⟨rfl, hst.2.2⟩)
theorem z_21 (cx : q_Cx mt p s m meth c args k D cy n ad A R cells slots) (hg : ∀ pc L st σ, g pc L st σ = some r → q_W mt p l e R s m args below meth c Q D cy ad n A k cells slots pc L st σ) (ho : q_okB mt k pc (21, ox, oa, ob, ol) = true) (h : q_stp n g cal pc (21, ox, oa, ob, ol) L st σ = some r) : q_W mt p l e R s m args below meth c Q D cy ad n A k cells slots pc L st σ := by
  replace ho : q_dc (mt k).2.1 pc .imul 1 = true := ho
  replace h : ((q_pI st).bind fun y => (q_pI y.2).bind fun x => g (pc + 1) L (.inl (x.1 * y.1) :: x.2) σ) = some r := h
  obtain ⟨y, e_y, h⟩ := Option.bind_eq_some_iff.mp h
  obtain ⟨x, e_x, h⟩ := Option.bind_eq_some_iff.mp h
  rw [q_pI_s e_y, q_pI_s e_x]
  intro H locs ls hP hS hl hL hst
  exact lv_imul cx.1 cx.2.1 (q_dd ho) (hg _ _ _ _ h H locs ls hP hS hl hL ⟨rfl, hst.2.2⟩)
theorem z_23 (cx : q_Cx mt p s m meth c args k D cy n ad A R cells slots) (hg : ∀ pc L st σ, g pc L st σ = some r → q_W mt p l e R s m args below meth c Q D cy ad n A k cells slots pc L st σ) (ho : q_okB mt k pc (23, ox, oa, ob, ol) = true) (h : q_stp n g cal pc (23, ox, oa, ob, ol) L st σ = some r) : q_W mt p l e R s m args below meth c Q D cy ad n A k cells slots pc L st σ := by
  replace ho : q_dc (mt k).2.1 pc .iand 1 = true := ho
  replace h : ((q_pI st).bind fun y => (q_pI y.2).bind fun x => g (pc + 1) L (.inl (x.1 &&& y.1) :: x.2) σ) = some r := h
  obtain ⟨y, e_y, h⟩ := Option.bind_eq_some_iff.mp h
  obtain ⟨x, e_x, h⟩ := Option.bind_eq_some_iff.mp h
  rw [q_pI_s e_y, q_pI_s e_x]
  intro H locs ls hP hS hl hL hst
  exact lv_iand cx.1 cx.2.1 (q_dd ho) (hg _ _ _ _ h H locs ls hP hS hl hL ⟨rfl, hst.2.2⟩)
theorem z_24 (cx : q_Cx mt p s m meth c args k D cy n ad A R cells slots) (hg : ∀ pc L st σ, g pc L st σ = some r → q_W mt p l e R s m args below meth c Q D cy ad n A k cells slots pc L st σ) (ho : q_okB mt k pc (24, ox, oa, ob, ol) = true) (h : q_stp n g cal pc (24, ox, oa, ob, ol) L st σ = some r) : q_W mt p l e R s m args below meth c Q D cy ad n A k cells slots pc L st σ := by
  replace ho : q_dc (mt k).2.1 pc .ior 1 = true := ho
  replace h : ((q_pI st).bind fun y => (q_pI y.2).bind fun x => g (pc + 1) L (.inl (x.1 ||| y.1) :: x.2) σ) = some r := h
  obtain ⟨y, e_y, h⟩ := Option.bind_eq_some_iff.mp h
  obtain ⟨x, e_x, h⟩ := Option.bind_eq_some_iff.mp h
  rw [q_pI_s e_y, q_pI_s e_x]
  intro H locs ls hP hS hl hL hst
  exact lv_ior cx.1 cx.2.1 (q_dd ho) (hg _ _ _ _ h H locs ls hP hS hl hL ⟨rfl, hst.2.2⟩)
theorem z_25 (cx : q_Cx mt p s m meth c args k D cy n ad A R cells slots) (hg : ∀ pc L st σ, g pc L st σ = some r → q_W mt p l e R s m args below meth c Q D cy ad n A k cells slots pc L st σ) (ho : q_okB mt k pc (25, ox, oa, ob, ol) = true) (h : q_stp n g cal pc (25, ox, oa, ob, ol) L st σ = some r) : q_W mt p l e R s m args below meth c Q D cy ad n A k cells slots pc L st σ := by
  replace ho : q_dc (mt k).2.1 pc .ishl 1 = true := ho
  replace h : ((q_pI st).bind fun y => (q_pI y.2).bind fun x => g (pc + 1) L (.inl (x.1 <<< (y.1 &&& 31)) :: x.2) σ) = some r := h
  obtain ⟨y, e_y, h⟩ := Option.bind_eq_some_iff.mp h
  obtain ⟨x, e_x, h⟩ := Option.bind_eq_some_iff.mp h
  rw [q_pI_s e_y, q_pI_s e_x]
  intro H locs ls hP hS hl hL hst
  exact lv_ishl cx.1 cx.2.1 (q_dd ho) (hg _ _ _ _ h H locs ls hP hS hl hL ⟨rfl, hst.2.2⟩)
theorem z_26 (cx : q_Cx mt p s m meth c args k D cy n ad A R cells slots) (hg : ∀ pc L st σ, g pc L st σ = some r → q_W mt p l e R s m args below meth c Q D cy ad n A k cells slots pc L st σ) (ho : q_okB mt k pc (26, ox, oa, ob, ol) = true) (h : q_stp n g cal pc (26, ox, oa, ob, ol) L st σ = some r) : q_W mt p l e R s m args below meth c Q D cy ad n A k cells slots pc L st σ := by
  replace ho : q_dc (mt k).2.1 pc .ishr 1 = true := ho
  replace h : ((q_pI st).bind fun y => (q_pI y.2).bind fun x => g (pc + 1) L (.inl (x.1 >>> (y.1 &&& 31)) :: x.2) σ) = some r := h
  obtain ⟨y, e_y, h⟩ := Option.bind_eq_some_iff.mp h
  obtain ⟨x, e_x, h⟩ := Option.bind_eq_some_iff.mp h
  rw [q_pI_s e_y, q_pI_s e_x]
  intro H locs ls hP hS hl hL hst
  exact lv_ishr cx.1 cx.2.1 (q_dd ho) (hg _ _ _ _ h H locs ls hP hS hl hL ⟨rfl, hst.2.2⟩)
theorem z_22 (cx : q_Cx mt p s m meth c args k D cy n ad A R cells slots) (hg : ∀ pc L st σ, g pc L st σ = some r → q_W mt p l e R s m args below meth c Q D cy ad n A k cells slots pc L st σ) (ho : q_okB mt k pc (22, ox, oa, ob, ol) = true) (h : q_stp n g cal pc (22, ox, oa, ob, ol) L st σ = some r) : q_W mt p l e R s m args below meth c Q D cy ad n A k cells slots pc L st σ := by
  replace ho : q_dc (mt k).2.1 pc .irem 1 = true := ho
  replace h : ((q_pI st).bind fun y => (q_pI y.2).bind fun x => if y.1 = 0 then none else g (pc + 1) L (.inl (x.1 - x.1 / y.1 * y.1) :: x.2) σ) = some r := h
  obtain ⟨y, e_y, h⟩ := Option.bind_eq_some_iff.mp h
  obtain ⟨x, e_x, h⟩ := Option.bind_eq_some_iff.mp h
  rw [q_pI_s e_y, q_pI_s e_x]
  by_cases hz : y.1 = 0
  · rw [if_pos hz] at h
    cases h
  rw [if_neg hz] at h
  intro H locs ls hP hS hl hL hst
  exact lv_irem cx.1 cx.2.1 (q_dd ho) hz (hg _ _ _ _ h H locs ls hP hS hl hL ⟨rfl, hst.2.2⟩)
theorem z_27 (cx : q_Cx mt p s m meth c args k D cy n ad A R cells slots) (hg : ∀ pc L st σ, g pc L st σ = some r → q_W mt p l e R s m args below meth c Q D cy ad n A k cells slots pc L st σ) (ho : q_okB mt k pc (27, ox, oa, ob, ol) = true) (h : q_stp n g cal pc (27, ox, oa, ob, ol) L st σ = some r) : q_W mt p l e R s m args below meth c Q D cy ad n A k cells slots pc L st σ := by
  replace ho : q_dc (mt k).2.1 pc .ladd 1 = true := ho
  replace h : ((q_pL st).bind fun y => (q_pL y.2).bind fun x => g (pc + 1) L (.inr (.inl (x.1 + y.1)) :: x.2) σ) = some r := h
  obtain ⟨y, e_y, h⟩ := Option.bind_eq_some_iff.mp h
  obtain ⟨x, e_x, h⟩ := Option.bind_eq_some_iff.mp h
  rw [q_pL_s e_y, q_pL_s e_x]
  intro H locs ls hP hS hl hL hst
  exact lv_ladd cx.1 cx.2.1 (q_dd ho) (hg _ _ _ _ h H locs ls hP hS hl hL ⟨rfl, hst.2.2⟩)
theorem z_28 (cx : q_Cx mt p s m meth c args k D cy n ad A R cells slots) (hg : ∀ pc L st σ, g pc L st σ = some r → q_W mt p l e R s m args below meth c Q D cy ad n A k cells slots pc L st σ) (ho : q_okB mt k pc (28, ox, oa, ob, ol) = true) (h : q_stp n g cal pc (28, ox, oa, ob, ol) L st σ = some r) : q_W mt p l e R s m args below meth c Q D cy ad n A k cells slots pc L st σ := by
  replace ho : q_dc (mt k).2.1 pc .land 1 = true := ho
  replace h : ((q_pL st).bind fun y => (q_pL y.2).bind fun x => g (pc + 1) L (.inr (.inl (x.1 &&& y.1)) :: x.2) σ) = some r := h
  obtain ⟨y, e_y, h⟩ := Option.bind_eq_some_iff.mp h
  obtain ⟨x, e_x, h⟩ := Option.bind_eq_some_iff.mp h
  rw [q_pL_s e_y, q_pL_s e_x]
  intro H locs ls hP hS hl hL hst
  exact lv_land cx.1 cx.2.1 (q_dd ho) (hg _ _ _ _ h H locs ls hP hS hl hL ⟨rfl, hst.2.2⟩)
theorem z_29 (cx : q_Cx mt p s m meth c args k D cy n ad A R cells slots) (hg : ∀ pc L st σ, g pc L st σ = some r → q_W mt p l e R s m args below meth c Q D cy ad n A k cells slots pc L st σ) (ho : q_okB mt k pc (29, ox, oa, ob, ol) = true) (h : q_stp n g cal pc (29, ox, oa, ob, ol) L st σ = some r) : q_W mt p l e R s m args below meth c Q D cy ad n A k cells slots pc L st σ := by
  replace ho : q_dc (mt k).2.1 pc .lor 1 = true := ho
  replace h : ((q_pL st).bind fun y => (q_pL y.2).bind fun x => g (pc + 1) L (.inr (.inl (x.1 ||| y.1)) :: x.2) σ) = some r := h
  obtain ⟨y, e_y, h⟩ := Option.bind_eq_some_iff.mp h
  obtain ⟨x, e_x, h⟩ := Option.bind_eq_some_iff.mp h
  rw [q_pL_s e_y, q_pL_s e_x]
  intro H locs ls hP hS hl hL hst
  exact lv_lor cx.1 cx.2.1 (q_dd ho) (hg _ _ _ _ h H locs ls hP hS hl hL ⟨rfl, hst.2.2⟩)
theorem z_30 (cx : q_Cx mt p s m meth c args k D cy n ad A R cells slots) (hg : ∀ pc L st σ, g pc L st σ = some r → q_W mt p l e R s m args below meth c Q D cy ad n A k cells slots pc L st σ) (ho : q_okB mt k pc (30, ox, oa, ob, ol) = true) (h : q_stp n g cal pc (30, ox, oa, ob, ol) L st σ = some r) : q_W mt p l e R s m args below meth c Q D cy ad n A k cells slots pc L st σ := by
  replace ho : q_dc (mt k).2.1 pc .lshl 1 = true := ho
  replace h : ((q_pI st).bind fun y => (q_pL y.2).bind fun x => g (pc + 1) L (.inr (.inl (x.1 <<< (y.1.toInt64 &&& 63))) :: x.2) σ) = some r := h
  obtain ⟨y, e_y, h⟩ := Option.bind_eq_some_iff.mp h
  obtain ⟨x, e_x, h⟩ := Option.bind_eq_some_iff.mp h
  rw [q_pI_s e_y, q_pL_s e_x]
  intro H locs ls hP hS hl hL hst
  exact lv_lshl cx.1 cx.2.1 (q_dd ho) rfl (hg _ _ _ _ h H locs ls hP hS hl hL ⟨rfl, hst.2.2⟩)
theorem z_31 (cx : q_Cx mt p s m meth c args k D cy n ad A R cells slots) (hg : ∀ pc L st σ, g pc L st σ = some r → q_W mt p l e R s m args below meth c Q D cy ad n A k cells slots pc L st σ) (ho : q_okB mt k pc (31, ox, oa, ob, ol) = true) (h : q_stp n g cal pc (31, ox, oa, ob, ol) L st σ = some r) : q_W mt p l e R s m args below meth c Q D cy ad n A k cells slots pc L st σ := by
  replace ho : q_dc (mt k).2.1 pc .lshr 1 = true := ho
  replace h : ((q_pI st).bind fun y => (q_pL y.2).bind fun x => g (pc + 1) L (.inr (.inl (x.1 >>> (y.1.toInt64 &&& 63))) :: x.2) σ) = some r := h
  obtain ⟨y, e_y, h⟩ := Option.bind_eq_some_iff.mp h
  obtain ⟨x, e_x, h⟩ := Option.bind_eq_some_iff.mp h
  rw [q_pI_s e_y, q_pL_s e_x]
  intro H locs ls hP hS hl hL hst
  exact lv_lshr cx.1 cx.2.1 (q_dd ho) rfl (hg _ _ _ _ h H locs ls hP hS hl hL ⟨rfl, hst.2.2⟩)
theorem z_32 (cx : q_Cx mt p s m meth c args k D cy n ad A R cells slots) (hg : ∀ pc L st σ, g pc L st σ = some r → q_W mt p l e R s m args below meth c Q D cy ad n A k cells slots pc L st σ) (ho : q_okB mt k pc (32, ox, oa, ob, ol) = true) (h : q_stp n g cal pc (32, ox, oa, ob, ol) L st σ = some r) : q_W mt p l e R s m args below meth c Q D cy ad n A k cells slots pc L st σ := by
  replace ho : q_dc (mt k).2.1 pc .lushr 1 = true := ho
  replace h : ((q_pI st).bind fun y => (q_pL y.2).bind fun x => g (pc + 1) L (.inr (.inl ((x.1.toUInt64 >>> (y.1.toInt64.toUInt64 &&& Int64.toUInt64 63)).toInt64)) :: x.2) σ) = some r := h
  obtain ⟨y, e_y, h⟩ := Option.bind_eq_some_iff.mp h
  obtain ⟨x, e_x, h⟩ := Option.bind_eq_some_iff.mp h
  rw [q_pI_s e_y, q_pL_s e_x]
  intro H locs ls hP hS hl hL hst
  exact lv_lushr cx.1 cx.2.1 (q_dd ho) rfl (hg _ _ _ _ h H locs ls hP hS hl hL ⟨rfl, hst.2.2⟩)
theorem z_33 (cx : q_Cx mt p s m meth c args k D cy n ad A R cells slots) (hg : ∀ pc L st σ, g pc L st σ = some r → q_W mt p l e R s m args below meth c Q D cy ad n A k cells slots pc L st σ) (ho : q_okB mt k pc (33, ox, oa, ob, ol) = true) (h : q_stp n g cal pc (33, ox, oa, ob, ol) L st σ = some r) : q_W mt p l e R s m args below meth c Q D cy ad n A k cells slots pc L st σ := by
  replace ho : q_dc (mt k).2.1 pc .i2l 1 = true := ho
  replace h : ((q_pI st).bind fun x => g (pc + 1) L (.inr (.inl x.1.toInt64) :: x.2) σ) = some r := h
  obtain ⟨x, e_x, h⟩ := Option.bind_eq_some_iff.mp h
  rw [q_pI_s e_x]
  intro H locs ls hP hS hl hL hst
  exact lv_i2l cx.1 cx.2.1 (q_dd ho) rfl (hg _ _ _ _ h H locs ls hP hS hl hL ⟨rfl, hst.2⟩)
theorem z_34 (cx : q_Cx mt p s m meth c args k D cy n ad A R cells slots) (hg : ∀ pc L st σ, g pc L st σ = some r → q_W mt p l e R s m args below meth c Q D cy ad n A k cells slots pc L st σ) (ho : q_okB mt k pc (34, ox, oa, ob, ol) = true) (h : q_stp n g cal pc (34, ox, oa, ob, ol) L st σ = some r) : q_W mt p l e R s m args below meth c Q D cy ad n A k cells slots pc L st σ := by
  replace ho : q_dc (mt k).2.1 pc .l2i 1 = true := ho
  replace h : ((q_pL st).bind fun x => g (pc + 1) L (.inl x.1.toInt32 :: x.2) σ) = some r := h
  obtain ⟨x, e_x, h⟩ := Option.bind_eq_some_iff.mp h
  rw [q_pL_s e_x]
  intro H locs ls hP hS hl hL hst
  exact lv_l2i cx.1 cx.2.1 (q_dd ho) rfl (hg _ _ _ _ h H locs ls hP hS hl hL ⟨rfl, hst.2⟩)
theorem z_35 (cx : q_Cx mt p s m meth c args k D cy n ad A R cells slots) (hg : ∀ pc L st σ, g pc L st σ = some r → q_W mt p l e R s m args below meth c Q D cy ad n A k cells slots pc L st σ) (ho : q_okB mt k pc (35, ox, oa, ob, ol) = true) (h : q_stp n g cal pc (35, ox, oa, ob, ol) L st σ = some r) : q_W mt p l e R s m args below meth c Q D cy ad n A k cells slots pc L st σ := by
  replace ho : q_dc (mt k).2.1 pc .lcmp 1 = true := ho
  replace h : ((q_pL st).bind fun y => (q_pL y.2).bind fun x => g (pc + 1) L (.inl (lg_cmp x.1 y.1) :: x.2) σ) = some r := h
  obtain ⟨y, e_y, h⟩ := Option.bind_eq_some_iff.mp h
  obtain ⟨x, e_x, h⟩ := Option.bind_eq_some_iff.mp h
  rw [q_pL_s e_y, q_pL_s e_x]
  intro H locs ls hP hS hl hL hst
  exact W.lcmp cx.1 cx.2.1 (q_dd ho) (hg _ _ _ _ h H locs ls hP hS hl hL ⟨rfl, hst.2.2⟩)
theorem z_36 (cx : q_Cx mt p s m meth c args k D cy n ad A R cells slots) (hg : ∀ pc L st σ, g pc L st σ = some r → q_W mt p l e R s m args below meth c Q D cy ad n A k cells slots pc L st σ) (ho : q_okB mt k pc (36, ox, oa, ob, ol) = true) (h : q_stp n g cal pc (36, ox, oa, ob, ol) L st σ = some r) : q_W mt p l e R s m args below meth c Q D cy ad n A k cells slots pc L st σ := by
  replace ho : q_dc (mt k).2.1 pc .dup 1 = true := ho
  replace h : ((q_p1 st).bind fun x => g (pc + 1) L (x.1 :: x.1 :: x.2) σ) = some r := h
  obtain ⟨x, e_x, h⟩ := Option.bind_eq_some_iff.mp h
  rw [q_p1_s e_x]
  intro H locs ls hP hS hl hL hst
  exact lv_dup cx.1 cx.2.1 (q_dd ho) (q_p1_c e_x) (hg _ _ _ _ h H locs ls hP hS hl hL ⟨hst.1, hst⟩)
theorem z_37 (cx : q_Cx mt p s m meth c args k D cy n ad A R cells slots) (hg : ∀ pc L st σ, g pc L st σ = some r → q_W mt p l e R s m args below meth c Q D cy ad n A k cells slots pc L st σ) (ho : q_okB mt k pc (37, ox, oa, ob, ol) = true) (h : q_stp n g cal pc (37, ox, oa, ob, ol) L st σ = some r) : q_W mt p l e R s m args below meth c Q D cy ad n A k cells slots pc L st σ := by
  replace ho : q_dc (mt k).2.1 pc .pop 1 = true := ho
  replace h : ((q_p1 st).bind fun x => g (pc + 1) L x.2 σ) = some r := h
  obtain ⟨x, e_x, h⟩ := Option.bind_eq_some_iff.mp h
  rw [q_p1_s e_x]
  intro H locs ls hP hS hl hL hst
  exact lv_pop cx.1 cx.2.1 (q_dd ho) (q_p1_c e_x) (hg _ _ _ _ h H locs ls hP hS hl hL hst.2)
theorem z_38 (cx : q_Cx mt p s m meth c args k D cy n ad A R cells slots) (hg : ∀ pc L st σ, g pc L st σ = some r → q_W mt p l e R s m args below meth c Q D cy ad n A k cells slots pc L st σ) (ho : q_okB mt k pc (38, ox, oa, ob, ol) = true) (h : q_stp n g cal pc (38, ox, oa, ob, ol) L st σ = some r) : q_W mt p l e R s m args below meth c Q D cy ad n A k cells slots pc L st σ := by
  replace ho : q_dc (mt k).2.1 pc .dup2 1 = true := ho
  replace h : ((q_p1 st).bind fun x => (q_p1 x.2).bind fun y => g (pc + 1) L (x.1 :: y.1 :: x.1 :: y.1 :: y.2) σ) = some r := h
  obtain ⟨x, e_x, h⟩ := Option.bind_eq_some_iff.mp h
  obtain ⟨y, e_y, h⟩ := Option.bind_eq_some_iff.mp h
  rw [q_p1_s e_x, q_p1_s e_y]
  intro H locs ls hP hS hl hL hst
  exact lv_dup2_11 cx.1 cx.2.1 (q_dd ho) (q_p1_c e_x) (q_p1_c e_y) (hg _ _ _ _ h H locs ls hP hS hl hL ⟨hst.1, hst.2.1, hst⟩)
theorem z_39 (cx : q_Cx mt p s m meth c args k D cy n ad A R cells slots) (hg : ∀ pc L st σ, g pc L st σ = some r → q_W mt p l e R s m args below meth c Q D cy ad n A k cells slots pc L st σ) (ho : q_okB mt k pc (39, ox, oa, ob, ol) = true) (h : q_stp n g cal pc (39, ox, oa, ob, ol) L st σ = some r) : q_W mt p l e R s m args below meth c Q D cy ad n A k cells slots pc L st σ := by
  replace ho : q_dc (mt k).2.1 pc .aconst_null 1 = true := ho
  replace h : (g (pc + 1) L (.inr (.inr none) :: st) σ) = some r := h
  intro H locs ls hP hS hl hL hst
  exact lv_null cx.1 cx.2.1 (q_dd ho) (hg _ _ _ _ h H locs ls hP hS hl hL ⟨rfl, hst⟩)
theorem z_40 (cx : q_Cx mt p s m meth c args k D cy n ad A R cells slots) (hg : ∀ pc L st σ, g pc L st σ = some r → q_W mt p l e R s m args below meth c Q D cy ad n A k cells slots pc L st σ) (ho : q_okB mt k pc (40, ox, oa, ob, ol) = true) (h : q_stp n g cal pc (40, ox, oa, ob, ol) L st σ = some r) : q_W mt p l e R s m args below meth c Q D cy ad n A k cells slots pc L st σ := by
  replace ho : (q_dc (mt k).2.1 pc (.ifnull ox) 3 && q_tg pc ox oa) = true := ho
  simp only [Bool.and_eq_true] at ho
  replace h : ((q_pN st).bind fun x => match x.1 with
    | none => g oa L x.2 σ
    | some _ => g (pc + 3) L x.2 σ) = some r := h
  obtain ⟨x, e_x, h⟩ := Option.bind_eq_some_iff.mp h
  rw [q_pN_s e_x]
  obtain ⟨x1, x2⟩ := x
  intro H locs ls hP hS hl hL hst
  have ht := of_decide_eq_true ho.2
  cases x1 with
  | none => exact lv_ifnullN cx.1 cx.2.1 (q_dd ho.1) ht (hg _ _ _ _ h H locs ls hP hS hl hL hst.2)
  | some q => exact lv_ifnull cx.1 cx.2.1 (q_dd ho.1) (hg _ _ _ _ h H locs ls hP hS hl hL hst.2)
theorem z_41 (cx : q_Cx mt p s m meth c args k D cy n ad A R cells slots) (hg : ∀ pc L st σ, g pc L st σ = some r → q_W mt p l e R s m args below meth c Q D cy ad n A k cells slots pc L st σ) (ho : q_okB mt k pc (41, ox, oa, ob, ol) = true) (h : q_stp n g cal pc (41, ox, oa, ob, ol) L st σ = some r) : q_W mt p l e R s m args below meth c Q D cy ad n A k cells slots pc L st σ := by
  replace ho : (q_dc (mt k).2.1 pc (.ifnonnull ox) 3 && q_tg pc ox oa) = true := ho
  simp only [Bool.and_eq_true] at ho
  replace h : ((q_pN st).bind fun x => match x.1 with
    | none => g (pc + 3) L x.2 σ
    | some _ => g oa L x.2 σ) = some r := h
  obtain ⟨x, e_x, h⟩ := Option.bind_eq_some_iff.mp h
  rw [q_pN_s e_x]
  obtain ⟨x1, x2⟩ := x
  intro H locs ls hP hS hl hL hst
  have ht := of_decide_eq_true ho.2
  cases x1 with
  | none => exact lv_ifnonnullN cx.1 cx.2.1 (q_dd ho.1) (hg _ _ _ _ h H locs ls hP hS hl hL hst.2)
  | some q => exact lv_ifnonnull cx.1 cx.2.1 (q_dd ho.1) ht (hg _ _ _ _ h H locs ls hP hS hl hL hst.2)
theorem z_42 (cx : q_Cx mt p s m meth c args k D cy n ad A R cells slots) (hg : ∀ pc L st σ, g pc L st σ = some r → q_W mt p l e R s m args below meth c Q D cy ad n A k cells slots pc L st σ) (ho : q_okB mt k pc (42, ox, oa, ob, ol) = true) (h : q_stp n g cal pc (42, ox, oa, ob, ol) L st σ = some r) : q_W mt p l e R s m args below meth c Q D cy ad n A k cells slots pc L st σ := by
  replace ho : (q_dc (mt k).2.1 pc (.goto ox) 3 && q_tg pc ox oa) = true := ho
  simp only [Bool.and_eq_true] at ho
  replace h : g oa L st σ = some r := h
  intro H locs ls hP hS hl hL hst
  exact lv_goto cx.1 cx.2.1 (q_dd ho.1) (of_decide_eq_true ho.2) (hg _ _ _ _ h H locs ls hP hS hl hL hst)
theorem z_43 (cx : q_Cx mt p s m meth c args k D cy n ad A R cells slots) (hg : ∀ pc L st σ, g pc L st σ = some r → q_W mt p l e R s m args below meth c Q D cy ad n A k cells slots pc L st σ) (ho : q_okB mt k pc (43, ox, oa, ob, ol) = true) (h : q_stp n g cal pc (43, ox, oa, ob, ol) L st σ = some r) : q_W mt p l e R s m args below meth c Q D cy ad n A k cells slots pc L st σ := by
  replace ho : (q_dc (mt k).2.1 pc (.ifCond .eq ox) 3 && q_tg pc ox oa) = true := ho
  simp only [Bool.and_eq_true] at ho
  replace h : ((q_pI st).bind fun x => if x.1 = 0 then g oa L x.2 σ else g (pc + 3) L x.2 σ) = some r := h
  obtain ⟨x, e_x, h⟩ := Option.bind_eq_some_iff.mp h
  rw [q_pI_s e_x]
  intro H locs ls hP hS hl hL hst
  exact lv_if_eq cx.1 cx.2.1 (q_dd ho.1) (of_decide_eq_true ho.2) (fun hc => hg _ _ _ _ ((if_pos hc).symm.trans h) H locs ls hP hS hl hL hst.2) (fun hc => hg _ _ _ _ ((if_neg hc).symm.trans h) H locs ls hP hS hl hL hst.2)
theorem z_44 (cx : q_Cx mt p s m meth c args k D cy n ad A R cells slots) (hg : ∀ pc L st σ, g pc L st σ = some r → q_W mt p l e R s m args below meth c Q D cy ad n A k cells slots pc L st σ) (ho : q_okB mt k pc (44, ox, oa, ob, ol) = true) (h : q_stp n g cal pc (44, ox, oa, ob, ol) L st σ = some r) : q_W mt p l e R s m args below meth c Q D cy ad n A k cells slots pc L st σ := by
  replace ho : (q_dc (mt k).2.1 pc (.ifCond .ne ox) 3 && q_tg pc ox oa) = true := ho
  simp only [Bool.and_eq_true] at ho
  replace h : ((q_pI st).bind fun x => if x.1 = 0 then g (pc + 3) L x.2 σ else g oa L x.2 σ) = some r := h
  obtain ⟨x, e_x, h⟩ := Option.bind_eq_some_iff.mp h
  rw [q_pI_s e_x]
  intro H locs ls hP hS hl hL hst
  exact lv_if_ne cx.1 cx.2.1 (q_dd ho.1) (of_decide_eq_true ho.2) (fun hc => hg _ _ _ _ ((if_neg hc).symm.trans h) H locs ls hP hS hl hL hst.2) (fun hc => hg _ _ _ _ ((if_pos hc).symm.trans h) H locs ls hP hS hl hL hst.2)
theorem z_45 (cx : q_Cx mt p s m meth c args k D cy n ad A R cells slots) (hg : ∀ pc L st σ, g pc L st σ = some r → q_W mt p l e R s m args below meth c Q D cy ad n A k cells slots pc L st σ) (ho : q_okB mt k pc (45, ox, oa, ob, ol) = true) (h : q_stp n g cal pc (45, ox, oa, ob, ol) L st σ = some r) : q_W mt p l e R s m args below meth c Q D cy ad n A k cells slots pc L st σ := by
  replace ho : (q_dc (mt k).2.1 pc (.ifCond .lt ox) 3 && q_tg pc ox oa) = true := ho
  simp only [Bool.and_eq_true] at ho
  replace h : ((q_pI st).bind fun x => if x.1 < 0 then g oa L x.2 σ else g (pc + 3) L x.2 σ) = some r := h
  obtain ⟨x, e_x, h⟩ := Option.bind_eq_some_iff.mp h
  rw [q_pI_s e_x]
  intro H locs ls hP hS hl hL hst
  exact lv_if_lt cx.1 cx.2.1 (q_dd ho.1) (of_decide_eq_true ho.2) (fun hc => hg _ _ _ _ ((if_pos hc).symm.trans h) H locs ls hP hS hl hL hst.2) (fun hc => hg _ _ _ _ ((if_neg hc).symm.trans h) H locs ls hP hS hl hL hst.2)
theorem z_46 (cx : q_Cx mt p s m meth c args k D cy n ad A R cells slots) (hg : ∀ pc L st σ, g pc L st σ = some r → q_W mt p l e R s m args below meth c Q D cy ad n A k cells slots pc L st σ) (ho : q_okB mt k pc (46, ox, oa, ob, ol) = true) (h : q_stp n g cal pc (46, ox, oa, ob, ol) L st σ = some r) : q_W mt p l e R s m args below meth c Q D cy ad n A k cells slots pc L st σ := by
  replace ho : (q_dc (mt k).2.1 pc (.ifCond .ge ox) 3 && q_tg pc ox oa) = true := ho
  simp only [Bool.and_eq_true] at ho
  replace h : ((q_pI st).bind fun x => if 0 ≤ x.1 then g oa L x.2 σ else g (pc + 3) L x.2 σ) = some r := h
  obtain ⟨x, e_x, h⟩ := Option.bind_eq_some_iff.mp h
  rw [q_pI_s e_x]
  intro H locs ls hP hS hl hL hst
  exact lv_if_ge cx.1 cx.2.1 (q_dd ho.1) (of_decide_eq_true ho.2) (fun hc => hg _ _ _ _ ((if_pos hc).symm.trans h) H locs ls hP hS hl hL hst.2) (fun hc => hg _ _ _ _ ((if_neg hc).symm.trans h) H locs ls hP hS hl hL hst.2)
theorem z_47 (cx : q_Cx mt p s m meth c args k D cy n ad A R cells slots) (hg : ∀ pc L st σ, g pc L st σ = some r → q_W mt p l e R s m args below meth c Q D cy ad n A k cells slots pc L st σ) (ho : q_okB mt k pc (47, ox, oa, ob, ol) = true) (h : q_stp n g cal pc (47, ox, oa, ob, ol) L st σ = some r) : q_W mt p l e R s m args below meth c Q D cy ad n A k cells slots pc L st σ := by
  replace ho : (q_dc (mt k).2.1 pc (.ifCond .gt ox) 3 && q_tg pc ox oa) = true := ho
  simp only [Bool.and_eq_true] at ho
  replace h : ((q_pI st).bind fun x => if 0 < x.1 then g oa L x.2 σ else g (pc + 3) L x.2 σ) = some r := h
  obtain ⟨x, e_x, h⟩ := Option.bind_eq_some_iff.mp h
  rw [q_pI_s e_x]
  intro H locs ls hP hS hl hL hst
  exact lv_if_gt cx.1 cx.2.1 (q_dd ho.1) (of_decide_eq_true ho.2) (fun hc => hg _ _ _ _ ((if_pos hc).symm.trans h) H locs ls hP hS hl hL hst.2) (fun hc => hg _ _ _ _ ((if_neg hc).symm.trans h) H locs ls hP hS hl hL hst.2)
theorem z_48 (cx : q_Cx mt p s m meth c args k D cy n ad A R cells slots) (hg : ∀ pc L st σ, g pc L st σ = some r → q_W mt p l e R s m args below meth c Q D cy ad n A k cells slots pc L st σ) (ho : q_okB mt k pc (48, ox, oa, ob, ol) = true) (h : q_stp n g cal pc (48, ox, oa, ob, ol) L st σ = some r) : q_W mt p l e R s m args below meth c Q D cy ad n A k cells slots pc L st σ := by
  replace ho : (q_dc (mt k).2.1 pc (.ifCond .le ox) 3 && q_tg pc ox oa) = true := ho
  simp only [Bool.and_eq_true] at ho
  replace h : ((q_pI st).bind fun x => if x.1 ≤ 0 then g oa L x.2 σ else g (pc + 3) L x.2 σ) = some r := h
  obtain ⟨x, e_x, h⟩ := Option.bind_eq_some_iff.mp h
  rw [q_pI_s e_x]
  intro H locs ls hP hS hl hL hst
  exact lv_if_le cx.1 cx.2.1 (q_dd ho.1) (of_decide_eq_true ho.2) (fun hc => hg _ _ _ _ ((if_pos hc).symm.trans h) H locs ls hP hS hl hL hst.2) (fun hc => hg _ _ _ _ ((if_neg hc).symm.trans h) H locs ls hP hS hl hL hst.2)
theorem z_49 (cx : q_Cx mt p s m meth c args k D cy n ad A R cells slots) (hg : ∀ pc L st σ, g pc L st σ = some r → q_W mt p l e R s m args below meth c Q D cy ad n A k cells slots pc L st σ) (ho : q_okB mt k pc (49, ox, oa, ob, ol) = true) (h : q_stp n g cal pc (49, ox, oa, ob, ol) L st σ = some r) : q_W mt p l e R s m args below meth c Q D cy ad n A k cells slots pc L st σ := by
  replace ho : (q_dc (mt k).2.1 pc (.if_icmp .eq ox) 3 && q_tg pc ox oa) = true := ho
  simp only [Bool.and_eq_true] at ho
  replace h : ((q_pI st).bind fun y => (q_pI y.2).bind fun x => if x.1 = y.1 then g oa L x.2 σ else g (pc + 3) L x.2 σ) = some r := h
  obtain ⟨y, e_y, h⟩ := Option.bind_eq_some_iff.mp h
  obtain ⟨x, e_x, h⟩ := Option.bind_eq_some_iff.mp h
  rw [q_pI_s e_y, q_pI_s e_x]
  intro H locs ls hP hS hl hL hst
  exact lv_icmp_eq cx.1 cx.2.1 (q_dd ho.1) (of_decide_eq_true ho.2) (fun hc => hg _ _ _ _ ((if_pos hc).symm.trans h) H locs ls hP hS hl hL hst.2.2) (fun hc => hg _ _ _ _ ((if_neg hc).symm.trans h) H locs ls hP hS hl hL hst.2.2)
theorem z_50 (cx : q_Cx mt p s m meth c args k D cy n ad A R cells slots) (hg : ∀ pc L st σ, g pc L st σ = some r → q_W mt p l e R s m args below meth c Q D cy ad n A k cells slots pc L st σ) (ho : q_okB mt k pc (50, ox, oa, ob, ol) = true) (h : q_stp n g cal pc (50, ox, oa, ob, ol) L st σ = some r) : q_W mt p l e R s m args below meth c Q D cy ad n A k cells slots pc L st σ := by
  replace ho : (q_dc (mt k).2.1 pc (.if_icmp .ne ox) 3 && q_tg pc ox oa) = true := ho
  simp only [Bool.and_eq_true] at ho
  replace h : ((q_pI st).bind fun y => (q_pI y.2).bind fun x => if x.1 = y.1 then g (pc + 3) L x.2 σ else g oa L x.2 σ) = some r := h
  obtain ⟨y, e_y, h⟩ := Option.bind_eq_some_iff.mp h
  obtain ⟨x, e_x, h⟩ := Option.bind_eq_some_iff.mp h
  rw [q_pI_s e_y, q_pI_s e_x]
  intro H locs ls hP hS hl hL hst
  exact lv_icmp_ne cx.1 cx.2.1 (q_dd ho.1) (of_decide_eq_true ho.2) (fun hc => hg _ _ _ _ ((if_neg hc).symm.trans h) H locs ls hP hS hl hL hst.2.2) (fun hc => hg _ _ _ _ ((if_pos hc).symm.trans h) H locs ls hP hS hl hL hst.2.2)
theorem z_51 (cx : q_Cx mt p s m meth c args k D cy n ad A R cells slots) (hg : ∀ pc L st σ, g pc L st σ = some r → q_W mt p l e R s m args below meth c Q D cy ad n A k cells slots pc L st σ) (ho : q_okB mt k pc (51, ox, oa, ob, ol) = true) (h : q_stp n g cal pc (51, ox, oa, ob, ol) L st σ = some r) : q_W mt p l e R s m args below meth c Q D cy ad n A k cells slots pc L st σ := by
  replace ho : (q_dc (mt k).2.1 pc (.if_icmp .lt ox) 3 && q_tg pc ox oa) = true := ho
  simp only [Bool.and_eq_true] at ho
  replace h : ((q_pI st).bind fun y => (q_pI y.2).bind fun x => if x.1 < y.1 then g oa L x.2 σ else g (pc + 3) L x.2 σ) = some r := h
  obtain ⟨y, e_y, h⟩ := Option.bind_eq_some_iff.mp h
  obtain ⟨x, e_x, h⟩ := Option.bind_eq_some_iff.mp h
  rw [q_pI_s e_y, q_pI_s e_x]
  intro H locs ls hP hS hl hL hst
  exact lv_icmp_lt cx.1 cx.2.1 (q_dd ho.1) (of_decide_eq_true ho.2) (fun hc => hg _ _ _ _ ((if_pos hc).symm.trans h) H locs ls hP hS hl hL hst.2.2) (fun hc => hg _ _ _ _ ((if_neg hc).symm.trans h) H locs ls hP hS hl hL hst.2.2)
theorem z_52 (cx : q_Cx mt p s m meth c args k D cy n ad A R cells slots) (hg : ∀ pc L st σ, g pc L st σ = some r → q_W mt p l e R s m args below meth c Q D cy ad n A k cells slots pc L st σ) (ho : q_okB mt k pc (52, ox, oa, ob, ol) = true) (h : q_stp n g cal pc (52, ox, oa, ob, ol) L st σ = some r) : q_W mt p l e R s m args below meth c Q D cy ad n A k cells slots pc L st σ := by
  replace ho : (q_dc (mt k).2.1 pc (.if_icmp .ge ox) 3 && q_tg pc ox oa) = true := ho
  simp only [Bool.and_eq_true] at ho
  replace h : ((q_pI st).bind fun y => (q_pI y.2).bind fun x => if y.1 ≤ x.1 then g oa L x.2 σ else g (pc + 3) L x.2 σ) = some r := h
  obtain ⟨y, e_y, h⟩ := Option.bind_eq_some_iff.mp h
  obtain ⟨x, e_x, h⟩ := Option.bind_eq_some_iff.mp h
  rw [q_pI_s e_y, q_pI_s e_x]
  intro H locs ls hP hS hl hL hst
  exact lv_icmp_ge cx.1 cx.2.1 (q_dd ho.1) (of_decide_eq_true ho.2) (fun hc => hg _ _ _ _ ((if_pos hc).symm.trans h) H locs ls hP hS hl hL hst.2.2) (fun hc => hg _ _ _ _ ((if_neg hc).symm.trans h) H locs ls hP hS hl hL hst.2.2)
theorem z_53 (cx : q_Cx mt p s m meth c args k D cy n ad A R cells slots) (hg : ∀ pc L st σ, g pc L st σ = some r → q_W mt p l e R s m args below meth c Q D cy ad n A k cells slots pc L st σ) (ho : q_okB mt k pc (53, ox, oa, ob, ol) = true) (h : q_stp n g cal pc (53, ox, oa, ob, ol) L st σ = some r) : q_W mt p l e R s m args below meth c Q D cy ad n A k cells slots pc L st σ := by
  replace ho : (q_dc (mt k).2.1 pc (.if_icmp .gt ox) 3 && q_tg pc ox oa) = true := ho
  simp only [Bool.and_eq_true] at ho
  replace h : ((q_pI st).bind fun y => (q_pI y.2).bind fun x => if y.1 < x.1 then g oa L x.2 σ else g (pc + 3) L x.2 σ) = some r := h
  obtain ⟨y, e_y, h⟩ := Option.bind_eq_some_iff.mp h
  obtain ⟨x, e_x, h⟩ := Option.bind_eq_some_iff.mp h
  rw [q_pI_s e_y, q_pI_s e_x]
  intro H locs ls hP hS hl hL hst
  exact lv_icmp_gt cx.1 cx.2.1 (q_dd ho.1) (of_decide_eq_true ho.2) (fun hc => hg _ _ _ _ ((if_pos hc).symm.trans h) H locs ls hP hS hl hL hst.2.2) (fun hc => hg _ _ _ _ ((if_neg hc).symm.trans h) H locs ls hP hS hl hL hst.2.2)
theorem z_54 (cx : q_Cx mt p s m meth c args k D cy n ad A R cells slots) (hg : ∀ pc L st σ, g pc L st σ = some r → q_W mt p l e R s m args below meth c Q D cy ad n A k cells slots pc L st σ) (ho : q_okB mt k pc (54, ox, oa, ob, ol) = true) (h : q_stp n g cal pc (54, ox, oa, ob, ol) L st σ = some r) : q_W mt p l e R s m args below meth c Q D cy ad n A k cells slots pc L st σ := by
  replace ho : (q_dc (mt k).2.1 pc (.if_icmp .le ox) 3 && q_tg pc ox oa) = true := ho
  simp only [Bool.and_eq_true] at ho
  replace h : ((q_pI st).bind fun y => (q_pI y.2).bind fun x => if x.1 ≤ y.1 then g oa L x.2 σ else g (pc + 3) L x.2 σ) = some r := h
  obtain ⟨y, e_y, h⟩ := Option.bind_eq_some_iff.mp h
  obtain ⟨x, e_x, h⟩ := Option.bind_eq_some_iff.mp h
  rw [q_pI_s e_y, q_pI_s e_x]
  intro H locs ls hP hS hl hL hst
  exact lv_icmp_le cx.1 cx.2.1 (q_dd ho.1) (of_decide_eq_true ho.2) (fun hc => hg _ _ _ _ ((if_pos hc).symm.trans h) H locs ls hP hS hl hL hst.2.2) (fun hc => hg _ _ _ _ ((if_neg hc).symm.trans h) H locs ls hP hS hl hL hst.2.2)
end SND
