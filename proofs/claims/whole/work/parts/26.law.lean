/-! The law's own loop, over the interpreter: steps, reads of the script, calls of helpers. Ours, written by law.py -/
def q_stL (n Lx : Nat) (xs : Nat → Int32) (g : Nat → PL → List PV → J → Option Res) (cal : Nat → List PV → J → Option Res) (pc : Nat) (o : Op) (L : PL) (st : List PV) (σ : J) : Option Res :=
  bif Nat.beq o.1 81 then ((q_pI st).bind fun j => (q_pR j.2).bind fun q => bif Nat.beq q.1.1 63 then (bif q_in j.1 Lx then g (pc + 1) L (.inl (xs j.1.toNatClampNeg) :: q.2) σ else none) else none)
  else bif Nat.beq o.1 82 then ((q_pR st).bind fun q => bif Nat.beq q.1.1 63 then g (pc + 1) L (.inl (Int32.ofNat Lx) :: q.2) σ else none)
  else q_stp n g cal pc o L st σ
/-- the law's own code, j steps of it -/
def q_runT (n Lx : Nat) (xs : Nat → Int32) (G : Nat → PL → List PV → J → Option Res) (cal : Nat → List PV → J → Option Res) : Nat → Nat → PL → List PV → J → Option Res
  | 0, pc, L, st, σ => G pc L st σ
  | f + 1, pc, L, st, σ => match q_pr 141 pc with
    | none => none
    | some o => q_stL n Lx xs (q_runT n Lx xs G cal f) cal pc o L st σ
def q_okL (pc : Nat) (o : Op) : Bool := match o.1 with
  | 80 => q_dc code pc (.invokestatic o.2.2.1) 3 && q_wd (o.2.2.2.2.getD 3 0) (.methodLink "JobBoardLaw" o.2.2.1 (q_mt o.2.2.2.1).1) && q_wd (o.2.2.2.2.getD 4 0) (.static (q_mt o.2.2.2.1).1) && q_wd (o.2.2.2.2.getD 6 0) (.initialized (q_mt o.2.2.2.1).1.cls) && q_wd (o.2.2.2.2.getD 7 0) (q_hcw o.2.2.2.1) && q_ny (q_mt o.2.2.2.1).1 "JobBoardLaw" (o.2.2.2.2.getD 0 0) && Nat.ble (q_mt o.2.2.2.1).2.2.1 30 && Nat.ble (o.2.2.2.2.getD 2 0) (q_mt o.2.2.2.1).2.2.1
  | 81 => q_dc code pc .iaload 1
  | 82 => q_dc code pc .arraylength 1
  | 76 => false
  | 77 => false
  | _ => true
theorem okL_141 : o_141.all (fun q => q_okL q.1 q.2) = true := by decide +kernel
theorem q_okL_at {pc : Nat} {o : Op} (h : q_pr 141 pc = some o) : q_okL pc o = true := q_all_at (F := fun q => q_okL q.1 q.2) okL_141 h
def q_bis : List Bool → Option Res → Option Res
  | [], x => x
  | b :: r, x => bif b then q_bis r x else none
def q_tru : List Bool → Prop
  | [] => True
  | b :: r => b = true ∧ q_tru r
theorem q_bis_t {x : Option Res} : ∀ {bs : List Bool}, q_tru bs → q_bis bs x = x := by
  intro bs
  induction bs with
  | nil => intro _; rfl
  | cons b r ih =>
    intro h
    show (bif b then q_bis r x else none) = x
    rw [h.1]
    exact ih h.2
def q_swP (P : Nat → Prop) (x : Int32) : Nat → List Nat → Nat → Prop
  | _, [], t => P t
  | v, u :: r, t => (x = Int32.ofNat v → P u) ∧ (¬ x = Int32.ofNat v → q_swP P x (v + 1) r t)
theorem q_sw_P {g : Nat → Option Res} {x : Int32} {r : Res} {P : Nat → Prop} (hg : ∀ t, P t → g t = some r) : ∀ {ts : List Nat} {v t : Nat}, q_swP P x v ts t → q_sw g x v ts t = some r := by
  intro ts
  induction ts with
  | nil => intro v t h; exact hg t h
  | cons u rr ih =>
    intro v t h
    show (if x = Int32.ofNat v then g u else q_sw g x (v + 1) rr t) = some r
    by_cases hx : x = Int32.ofNat v
    · rw [if_pos hx]; exact hg u (h.1 hx)
    · rw [if_neg hx]; exact ih (h.2 hx)
theorem q_W_le {mt : Nat → MRow} {p : Program} {l : Launch} {e : Env} {R : Room} {s : State} {m : MethodId} {args : Array Value} {below : List Frame} {meth : Method} {c : Code} {Q : State → Prop} {D : va_G} {cy : Nat → ClassId} {ad : Nat → Nat → Nat} {n k cells slots pc : Nat} {A : Nat → Prop} {L M : PL} {st : List PV} {σ : J} (h : ∀ a, q_le (L a) (M a)) (w : q_W mt p l e R s m args below meth c Q D cy ad n A k cells slots pc L st σ) : q_W mt p l e R s m args below meth c Q D cy ad n A k cells slots pc M st σ := by
  intro H locs ls hP hS hl hL hst
  refine w H locs ls hP hS ⟨hl.1, hl.2.1, fun q hq => ?_⟩ (fun a v ha => hL a v (h a v ha)) hst
  apply hl.2.2 q
  unfold q_ll at hq ⊢
  obtain ⟨a, ha, hqa⟩ := List.mem_filterMap.mp hq
  refine List.mem_filterMap.mpr ⟨a, ha, ?_⟩
  cases hLa : L a with
  | none => rw [hLa] at hqa; cases hqa
  | some v =>
    rw [hLa] at hqa
    rw [h a v hLa]
    exact hqa
section ALG
variable {mt : Nat → MRow} {p : Program} {l : Launch} {e : Env} {R : Room} {s : State} {m : MethodId} {args : Array Value} {below : List Frame} {meth : Method} {c : Code} {Q : State → Prop} {D : va_G} {cy : Nat → ClassId} {ad : Nat → Nat → Nat} {n k cells slots pc : Nat} {A : Nat → Prop} {g : Nat → PL → List PV → J → Option Res} {cal : Nat → List PV → J → Option Res} {L : PL} {st : List PV} {σ σ0 : J} {ox : Int} {oa ob : Nat} {ol : List Nat}
theorem q_allG {ci : Nat} (cx : q_Cx mt p s m meth c args k D cy n ad A R cells slots) (hg : ∀ pc L st σ, g pc L st σ = some (.inl none, σ0) → q_W mt p l e R s m args below meth c Q D cy ad n A k cells slots pc L st σ) {rm : Room} (hrm : rm.cells = 0 ∧ rm.slots = 0 ∧ rm.frames + 1 ≤ R.frames ∧ 49 + rm.locals ≤ R.locals) (hcl : ∀ k1 vs τ v τ1, cal k1 vs τ = some (.inl v, τ1) → (vs.map q_cat).sum ≤ (mt k1).2.2.1 → q_oks n vs → q_CT l mt rm D cy ad n A k1 vs τ v τ1) (h76 : ci ≠ 76) (h77 : ci ≠ 77) (ho : q_okB mt k pc (ci, ox, oa, ob, ol) = true) (h : q_stp n g cal pc (ci, ox, oa, ob, ol) L st σ = some (.inl none, σ0)) : q_W mt p l e R s m args below meth c Q D cy ad n A k cells slots pc L st σ := by
  by_cases hbig : 77 < ci ∨ ci = 5
  · rw [q_big hbig] at h
    cases h
  have hlt : ci < 78 := by omega
  match ci, hlt, h76, h77, ho, h with
  | 0, _, _, _, ho, h => exact z_0 cx hg ho h
  | 1, _, _, _, ho, h => exact z_1 cx hg ho h
  | 2, _, _, _, ho, h => exact z_2 cx hg ho h
  | 3, _, _, _, ho, h => exact z_3 cx hg ho h
  | 4, _, _, _, ho, h => exact z_4 cx hg ho h
  | 6, _, _, _, ho, h => exact z_6 cx hg ho h
  | 7, _, _, _, ho, h => exact z_7 cx hg ho h
  | 8, _, _, _, ho, h => exact z_8 cx hg ho h
  | 9, _, _, _, ho, h => exact z_9 cx hg ho h
  | 10, _, _, _, ho, h => exact z_10 cx hg ho h
  | 11, _, _, _, ho, h => exact z_11 cx hg ho h
  | 12, _, _, _, ho, h => exact z_12 cx hg ho h
  | 13, _, _, _, ho, h => exact z_13 cx hg ho h
  | 14, _, _, _, ho, h => exact z_14 cx hg ho h
  | 15, _, _, _, ho, h => exact z_15 cx hg ho h
  | 16, _, _, _, ho, h => exact z_16 cx hg ho h
  | 17, _, _, _, ho, h => exact z_17 cx hg ho h
  | 18, _, _, _, ho, h => exact z_18 cx hg ho h
  | 19, _, _, _, ho, h => exact z_19 cx hg ho h
  | 20, _, _, _, ho, h => exact z_20 cx hg ho h
  | 21, _, _, _, ho, h => exact z_21 cx hg ho h
  | 22, _, _, _, ho, h => exact z_22 cx hg ho h
  | 23, _, _, _, ho, h => exact z_23 cx hg ho h
  | 24, _, _, _, ho, h => exact z_24 cx hg ho h
  | 25, _, _, _, ho, h => exact z_25 cx hg ho h
  | 26, _, _, _, ho, h => exact z_26 cx hg ho h
  | 27, _, _, _, ho, h => exact z_27 cx hg ho h
  | 28, _, _, _, ho, h => exact z_28 cx hg ho h
  | 29, _, _, _, ho, h => exact z_29 cx hg ho h
  | 30, _, _, _, ho, h => exact z_30 cx hg ho h
  | 31, _, _, _, ho, h => exact z_31 cx hg ho h
  | 32, _, _, _, ho, h => exact z_32 cx hg ho h
  | 33, _, _, _, ho, h => exact z_33 cx hg ho h
  | 34, _, _, _, ho, h => exact z_34 cx hg ho h
  | 35, _, _, _, ho, h => exact z_35 cx hg ho h
  | 36, _, _, _, ho, h => exact z_36 cx hg ho h
  | 37, _, _, _, ho, h => exact z_37 cx hg ho h
  | 38, _, _, _, ho, h => exact z_38 cx hg ho h
  | 39, _, _, _, ho, h => exact z_39 cx hg ho h
  | 40, _, _, _, ho, h => exact z_40 cx hg ho h
  | 41, _, _, _, ho, h => exact z_41 cx hg ho h
  | 42, _, _, _, ho, h => exact z_42 cx hg ho h
  | 43, _, _, _, ho, h => exact z_43 cx hg ho h
  | 44, _, _, _, ho, h => exact z_44 cx hg ho h
  | 45, _, _, _, ho, h => exact z_45 cx hg ho h
  | 46, _, _, _, ho, h => exact z_46 cx hg ho h
  | 47, _, _, _, ho, h => exact z_47 cx hg ho h
  | 48, _, _, _, ho, h => exact z_48 cx hg ho h
  | 49, _, _, _, ho, h => exact z_49 cx hg ho h
  | 50, _, _, _, ho, h => exact z_50 cx hg ho h
  | 51, _, _, _, ho, h => exact z_51 cx hg ho h
  | 52, _, _, _, ho, h => exact z_52 cx hg ho h
  | 53, _, _, _, ho, h => exact z_53 cx hg ho h
  | 54, _, _, _, ho, h => exact z_54 cx hg ho h
  | 55, _, _, _, ho, h => exact z_55 cx hg ho h
  | 56, _, _, _, ho, h => exact z_56 cx hg ho h
  | 57, _, _, _, ho, h => exact z_57 cx hg ho h
  | 58, _, _, _, ho, h => exact z_58 cx hg ho h
  | 59, _, _, _, ho, h => exact z_59 cx hg ho h
  | 60, _, _, _, ho, h => exact z_60 cx hg ho h
  | 61, _, _, _, ho, h => exact z_61 cx hg ho h
  | 62, _, _, _, ho, h => exact z_62 cx hg ho h
  | 63, _, _, _, ho, h => exact z_63 cx hg ho h
  | 64, _, _, _, ho, h => exact z_64 cx hg ho h
  | 65, _, _, _, ho, h => exact z_65 cx hg ho h
  | 66, _, _, _, ho, h => exact z_66 cx hg ho h
  | 67, _, _, _, ho, h => exact z_67 cx hg hrm hcl ⟨_, _, rfl⟩ ho h
  | 68, _, _, _, ho, h => exact z_68 cx hg hrm hcl ⟨_, _, rfl⟩ ho h
  | 69, _, _, _, ho, h => exact z_69 cx hg ho h
  | 70, _, _, _, ho, h => exact z_70 cx hg ho h
  | 71, _, _, _, ho, h => exact z_71 cx hg ho h
  | 72, _, _, _, _, h =>
    replace h : ((q_pI st).bind fun x => match x.2 with
      | [] => (some (Sum.inl (some (.inl x.1)), σ) : Option Res)
      | _ :: _ => none) = some (.inl none, σ0) := h
    obtain ⟨x, e_x, h⟩ := Option.bind_eq_some_iff.mp h
    obtain ⟨x1, x2⟩ := x
    cases x2 <;> cases h
  | 74, _, _, _, _, h =>
    replace h : ((q_pL st).bind fun x => match x.2 with
      | [] => (some (Sum.inl (some (.inr (.inl x.1))), σ) : Option Res)
      | _ :: _ => none) = some (.inl none, σ0) := h
    obtain ⟨x, e_x, h⟩ := Option.bind_eq_some_iff.mp h
    obtain ⟨x1, x2⟩ := x
    cases x2 <;> cases h
  | 75, _, _, _, _, h =>
    replace h : ((q_pN st).bind fun x => match x.2 with
      | [] => (some (Sum.inl (some (.inr (.inr x.1))), σ) : Option Res)
      | _ :: _ => none) = some (.inl none, σ0) := h
    obtain ⟨x, e_x, h⟩ := Option.bind_eq_some_iff.mp h
    obtain ⟨x1, x2⟩ := x
    cases x2 <;> cases h
  | 73, _, _, _, _, h =>
    replace h : ((q_pI st).bind fun x => match x.2 with
      | [] => ((if x.1 &&& 1 = x.1 then some (Sum.inl (some (.inl x.1)), σ) else none) : Option Res)
      | _ :: _ => none) = some (.inl none, σ0) := h
    obtain ⟨x, e_x, h⟩ := Option.bind_eq_some_iff.mp h
    obtain ⟨x1, x2⟩ := x
    cases x2 with
    | nil =>
      replace h : ((if x1 &&& 1 = x1 then some (Sum.inl (some (.inl x1)), σ) else none) : Option Res) = some (.inl none, σ0) := h
      by_cases hx : x1 &&& 1 = x1
      · rw [if_pos hx] at h; cases h
      · rw [if_neg hx] at h; cases h
    | cons _ _ => cases h
  | 76, _, h76, _, _, _ => exact absurd rfl h76
  | 77, _, _, h77, _, _ => exact absurd rfl h77
  | 5, _, _, _, _, _ => exact absurd (Or.inr rfl) hbig
  | _ + 78, hl, _, _, _, _ => omega
end ALG
section LAW
variable {p : Program} {l : Launch} {e : Env} {R : Room} {s : State} {m : MethodId} {args : Array Value} {below : List Frame} {meth : Method} {c : Code} {Q : State → Prop} {D : va_G} {cy : Nat → ClassId} {ad : Nat → Nat → Nat} {n cells slots pc pc' pc1 pc2 : Nat} {A : Nat → Prop} {L L' : PL} {st st' rest : List PV} {σ σ' σ'' : J} {b Lx : Nat} {xs : Nat → Int32}
/-- what holds in the law's own frame -/
def q_LC (p : Program) (l : Launch) (s : State) (m : MethodId) (meth : Method) (c : Code) (args : Array Value) (D : va_G) (cy : Nat → ClassId) (n : Nat) (ad : Nat → Nat → Nat) (A : Nat → Prop) (R : Room) (cells slots b Lx : Nat) (xs : Nat → Int32) : Prop :=
  q_Cx q_mt p s m meth c args 141 D cy n ad A R cells slots ∧ va_X b Lx xs s s.heap ∧ b < s.heap.size ∧ ¬ A b ∧ (∀ i, ad 63 i = b) ∧ q_Th A s ∧ q_Tn s ∧ (∀ e, l.admits e → e.platform.stackTraces = false) ∧ 40 ≤ R.frames ∧ 3000 ≤ R.locals ∧ (∀ k pc o, q_pr k pc = some o → q_okB q_mt k pc o = true) ∧ (∀ k, plainName (q_mt k).1.cls = true)
abbrev q_V (p : Program) (l : Launch) (e : Env) (R : Room) (s : State) (m : MethodId) (args : Array Value) (below : List Frame) (meth : Method) (c : Code) (Q : State → Prop) (D : va_G) (cy : Nat → ClassId) (ad : Nat → Nat → Nat) (n : Nat) (A : Nat → Prop) (cells slots pc : Nat) (L : PL) (st : List PV) (σ : J) : Prop := q_W q_mt p l e R s m args below meth c Q D cy ad n A 141 cells slots pc L st σ
theorem q_allT {g : Nat → PL → List PV → J → Option Res} {cal : Nat → List PV → J → Option Res} {σ0 : J} {ci : Nat} {ox : Int} {oa ob : Nat} {ol : List Nat} (cx : q_LC p l s m meth c args D cy n ad A R cells slots b Lx xs) (hg : ∀ pc L st σ, g pc L st σ = some (.inl none, σ0) → q_V p l e R s m args below meth c Q D cy ad n A cells slots pc L st σ) (hcl : ∀ k1 vs τ v τ1, cal k1 vs τ = some (.inl v, τ1) → (vs.map q_cat).sum ≤ (q_mt k1).2.2.1 → q_oks n vs → q_CT l q_mt (q_rmd 20) D cy ad n A k1 vs τ v τ1) (ho : q_okB q_mt 141 pc (ci, ox, oa, ob, ol) = true) (ho2 : q_okL pc (ci, ox, oa, ob, ol) = true) (h : q_stL n Lx xs g cal pc (ci, ox, oa, ob, ol) L st σ = some (.inl none, σ0)) : q_V p l e R s m args below meth c Q D cy ad n A cells slots pc L st σ := by
  have hrm : (q_rmd 20).cells = 0 ∧ (q_rmd 20).slots = 0 ∧ (q_rmd 20).frames + 1 ≤ R.frames ∧ 49 + (q_rmd 20).locals ≤ R.locals := ⟨rfl, rfl, by have := cx.2.2.2.2.2.2.2.2.1; show 20 + 1 + 1 ≤ _; omega, by have := cx.2.2.2.2.2.2.2.2.2.1; show 49 + (49 * 20 + 60) ≤ _; omega⟩
  unfold q_stL at h
  cases h81 : Nat.beq ci 81 with
  | true =>
    obtain rfl := Nat.eq_of_beq_eq_true h81
    replace h : ((q_pI st).bind fun j => (q_pR j.2).bind fun q => bif Nat.beq q.1.1 63 then (bif q_in j.1 Lx then g (pc + 1) L (.inl (xs j.1.toNatClampNeg) :: q.2) σ else none) else none) = some (.inl none, σ0) := h
    obtain ⟨j, e_j, h⟩ := Option.bind_eq_some_iff.mp h
    obtain ⟨q, e_q, h⟩ := Option.bind_eq_some_iff.mp h
    obtain ⟨hq, h⟩ := q_bf h
    obtain ⟨hj, h⟩ := q_bf h
    rw [q_pI_s e_j, q_pR_s e_q]
    obtain ⟨⟨qk, qi⟩, q2⟩ := q
    obtain rfl := Nat.eq_of_beq_eq_true hq
    intro H locs ls hP hS hl hL hst
    have hk := hg _ _ _ _ h H locs ls hP hS hl hL ⟨rfl, hst.2.2⟩
    show W p l e R s m args below meth c H locs cells slots Q (F0 m pc ls (.int j.1 :: .ref (ad 63 qi) :: q2.map (q_tv ad)))
    rw [cx.2.2.2.2.1 qi]
    exact va_sld cx.1.1 cx.1.2.1 cx.2.1 cx.2.2.1 cx.2.2.2.1 hS (of_decide_eq_true (p := ¬ (j.1 < 0 ∨ Lx ≤ j.1.toNatClampNeg)) hj) (q_dd ho2) hk
  | false =>
  rw [h81] at h
  cases h82 : Nat.beq ci 82 with
  | true =>
    obtain rfl := Nat.eq_of_beq_eq_true h82
    replace h : ((q_pR st).bind fun q => bif Nat.beq q.1.1 63 then g (pc + 1) L (.inl (Int32.ofNat Lx) :: q.2) σ else none) = some (.inl none, σ0) := h
    obtain ⟨q, e_q, h⟩ := Option.bind_eq_some_iff.mp h
    obtain ⟨hq, h⟩ := q_bf h
    rw [q_pR_s e_q]
    obtain ⟨⟨qk, qi⟩, q2⟩ := q
    obtain rfl := Nat.eq_of_beq_eq_true hq
    intro H locs ls hP hS hl hL hst
    have hk := hg _ _ _ _ h H locs ls hP hS hl hL ⟨rfl, hst.2⟩
    show W p l e R s m args below meth c H locs cells slots Q (F0 m pc ls (.ref (ad 63 qi) :: q2.map (q_tv ad)))
    rw [cx.2.2.2.2.1 qi]
    exact va_slen cx.1.1 cx.1.2.1 cx.2.1 cx.2.2.1 cx.2.2.2.1 hS (q_dd ho2) hk
  | false =>
  rw [h82] at h
  replace h : q_stp n g cal pc (ci, ox, oa, ob, ol) L st σ = some (.inl none, σ0) := h
  have h76 : ci ≠ 76 := fun q => by subst q; cases ho2
  have h77 : ci ≠ 77 := fun q => by subst q; cases ho2
  exact q_allG cx.1 hg hrm hcl h76 h77 ho h
theorem q_runT_W {G : Nat → PL → List PV → J → Option Res} {cal : Nat → List PV → J → Option Res} {σ0 : J} (cx : q_LC p l s m meth c args D cy n ad A R cells slots b Lx xs) (hG : ∀ pc L st σ, G pc L st σ = some (.inl none, σ0) → q_V p l e R s m args below meth c Q D cy ad n A cells slots pc L st σ) (hcl : ∀ k1 vs τ v τ1, cal k1 vs τ = some (.inl v, τ1) → (vs.map q_cat).sum ≤ (q_mt k1).2.2.1 → q_oks n vs → q_CT l q_mt (q_rmd 20) D cy ad n A k1 vs τ v τ1) :
    ∀ (f pc : Nat) (L : PL) (st : List PV) (σ : J), q_runT n Lx xs G cal f pc L st σ = some (.inl none, σ0) → q_V p l e R s m args below meth c Q D cy ad n A cells slots pc L st σ := by
  intro f
  induction f with
  | zero => intro pc L st σ h; exact hG pc L st σ h
  | succ f ih =>
    intro pc L st σ h
    unfold q_runT at h
    cases ho : q_pr 141 pc with
    | none => rw [ho] at h; cases h
    | some o =>
      rw [ho] at h
      obtain ⟨ci, ox, oa, ob, ol⟩ := o
      exact q_allT cx ih hcl (cx.2.2.2.2.2.2.2.2.2.2.1 141 pc _ ho) (q_okL_at ho) h
/-- where the machine comes to Q from there -/
noncomputable def q_GG (P : Nat → PL → List PV → J → Prop) (σ0 : J) : Nat → PL → List PV → J → Option Res := fun pc L st σ => @ite _ (P pc L st σ) (Classical.propDecidable _) (some (.inl none, σ0)) none
theorem q_GG_t {P : Nat → PL → List PV → J → Prop} {σ0 : J} {pc : Nat} {L : PL} {st : List PV} {σ : J} (h : P pc L st σ) : q_GG P σ0 pc L st σ = some (.inl none, σ0) := if_pos h
theorem q_GG_o {P : Nat → PL → List PV → J → Prop} {σ0 : J} : ∀ pc L st σ, q_GG P σ0 pc L st σ = some (.inl none, σ0) → P pc L st σ := by
  intro pc L st σ h
  unfold q_GG at h
  by_cases hp : P pc L st σ
  · exact hp
  · rw [if_neg hp] at h; cases h
theorem T_gb (cx : q_LC p l s m meth c args D cy n ad A R cells slots b Lx xs) (j : Nat) {bs : List Bool} (h : ∀ G cal, q_runT n Lx xs G cal j pc L st σ = q_bis bs (G pc' L' st' σ')) (hb : q_tru bs) (k : q_V p l e R s m args below meth c Q D cy ad n A cells slots pc' L' st' σ') : q_V p l e R s m args below meth c Q D cy ad n A cells slots pc L st σ := by
  refine q_runT_W (G := q_GG (q_V p l e R s m args below meth c Q D cy ad n A cells slots) σ) (cal := fun _ _ _ => none) (σ0 := σ) cx q_GG_o (fun _ _ _ _ _ hz => by cases hz) j pc L st σ ?_
  rw [h, q_bis_t hb]
  exact q_GG_t k
theorem T_go (cx : q_LC p l s m meth c args D cy n ad A R cells slots b Lx xs) (j : Nat) (h : ∀ G cal, q_runT n Lx xs G cal j pc L st σ = G pc' L' st' σ') (k : q_V p l e R s m args below meth c Q D cy ad n A cells slots pc' L' st' σ') : q_V p l e R s m args below meth c Q D cy ad n A cells slots pc L st σ := T_gb cx j (bs := []) h trivial k
theorem T_if (cx : q_LC p l s m meth c args D cy n ad A R cells slots b Lx xs) (j : Nat) {cc : Prop} {dc : Decidable cc} (h : ∀ G cal, q_runT n Lx xs G cal j pc L st σ = @ite _ cc dc (G pc1 L' st' σ') (G pc2 L' st' σ')) (h1 : cc → q_V p l e R s m args below meth c Q D cy ad n A cells slots pc1 L' st' σ') (h2 : ¬ cc → q_V p l e R s m args below meth c Q D cy ad n A cells slots pc2 L' st' σ') : q_V p l e R s m args below meth c Q D cy ad n A cells slots pc L st σ := by
  refine q_runT_W (G := q_GG (q_V p l e R s m args below meth c Q D cy ad n A cells slots) σ) (cal := fun _ _ _ => none) (σ0 := σ) cx q_GG_o (fun _ _ _ _ _ hz => by cases hz) j pc L st σ ?_
  rw [h]
  by_cases hc : cc
  · rw [if_pos hc]; exact q_GG_t (h1 hc)
  · rw [if_neg hc]; exact q_GG_t (h2 hc)
theorem T_sw (cx : q_LC p l s m meth c args D cy n ad A R cells slots b Lx xs) (j : Nat) {x : Int32} {lo t : Nat} {ts : List Nat} (h : ∀ G cal, q_runT n Lx xs G cal j pc L st σ = q_sw (fun t => G t L' st' σ') x lo ts t) (k : q_swP (fun t => q_V p l e R s m args below meth c Q D cy ad n A cells slots t L' st' σ') x lo ts t) : q_V p l e R s m args below meth c Q D cy ad n A cells slots pc L st σ := by
  refine q_runT_W (G := q_GG (q_V p l e R s m args below meth c Q D cy ad n A cells slots) σ) (cal := fun _ _ _ => none) (σ0 := σ) cx q_GG_o (fun _ _ _ _ _ hz => by cases hz) j pc L st σ ?_
  rw [h]
  exact q_sw_P (fun t ht => q_GG_t ht) k
theorem T_ca (cx : q_LC p l s m meth c args D cy n ad A R cells slots b Lx xs) {k1 d : Nat} {vs : List PV} {v : Option PV} (h : ∀ G cal, q_runT n Lx xs G cal 1 pc L st σ = (cal k1 vs σ).bind (q_af n (fun st2 σ2 => G pc' L' st2 σ2) rest)) (hc : q_ex q_pr n d k1 0 (q_args 0 vs) [] σ (.inl v, σ'')) (hd : d ≤ 20) (hv : q_okr n v = true) (k : q_V p l e R s m args below meth c Q D cy ad n A cells slots pc' L' (v.toList ++ rest) σ'') : q_V p l e R s m args below meth c Q D cy ad n A cells slots pc L st σ := by
  obtain ⟨f, hf⟩ := q_ex_dd hc hd
  refine q_runT_W (G := q_GG (q_V p l e R s m args below meth c Q D cy ad n A cells slots) σ) (cal := fun k vs σ => q_run q_pr n 20 f k 0 (q_args 0 vs) [] σ) (σ0 := σ) cx q_GG_o (fun k1 vs τ v τ1 hz => q_met cx.1.2.2.2.2.2.2.2.2.1 cx.2.2.2.2.2.2.2.2.2.2.1 cx.2.2.2.2.2.2.2.2.2.2.2 20 f k1 vs τ v τ1 hz) 1 pc L st σ ?_
  rw [h]
  show (q_run q_pr n 20 f k1 0 (q_args 0 vs) [] σ).bind _ = _
  rw [hf]
  cases v with
  | none => exact q_GG_t k
  | some w =>
    show (bif q_ok n w then _ else none) = _
    rw [show q_ok n w = true from hv]
    exact q_GG_t k
theorem T_ll (cx : q_LC p l s m meth c args D cy n ad A R cells slots b Lx xs) {ll : List (Nat × PV)} {M : PL} (k : q_V p l e R s m args below meth c Q D cy ad n A cells slots pc (q_L ll) st σ) (h : q_Ls M ll) : q_V p l e R s m args below meth c Q D cy ad n A cells slots pc M st σ := q_W_le (q_L_le h) k
/-- what a helper answers: nothing thrown, or a code for what was -/
def q_hok (k : Nat) (r : Option PV ⊕ Nat) (kc : Int32) : Prop := (r = .inl (some (.inl 0)) ∧ kc = 0) ∨ ∃ ex, r = .inr ex ∧ 1 ≤ ex ∧ ex ≤ 4 ∧ ∃ cd : Int, q_hB k ex cd = true ∧ kc = Int32.ofInt cd
theorem T_he (cx : q_LC p l s m meth c args D cy n ad A R cells slots b Lx xs) {hk oa d : Nat} {ol : List Nat} {vs : List PV} {r : Option PV ⊕ Nat} {kc : Int32} (ho : q_pr 141 pc = some (80, 0, oa, hk, ol)) (hc : q_ex q_pr n d hk 0 (q_args 0 vs) [] σ (r, σ'')) (hd : d ≤ 21) (hr : q_hok hk r kc) (he : q_pop (ol.getD 0 0) st = some (vs, rest)) (hw : (vs.map q_cat).sum = ol.getD 2 0) (hro : q_rm rest = true) (hc1 : cells + 1 ≤ R.cells) (hs6 : slots + 6 ≤ R.slots) (k : q_V p l e R s m args below meth c Q D cy ad n A (cells + 1) (slots + 6) (pc + 3) L (.inl kc :: rest) σ'') : q_V p l e R s m args below meth c Q D cy ad n A cells slots pc L st σ := by
  have o := q_okL_at ho
  replace o : (q_dc code pc (.invokestatic oa) 3 && q_wd (ol.getD 3 0) (.methodLink "JobBoardLaw" oa (q_mt hk).1) && q_wd (ol.getD 4 0) (.static (q_mt hk).1) && q_wd (ol.getD 6 0) (.initialized (q_mt hk).1.cls) && q_wd (ol.getD 7 0) (q_hcw hk) && q_ny (q_mt hk).1 "JobBoardLaw" (ol.getD 0 0) && Nat.ble (q_mt hk).2.2.1 30 && Nat.ble (ol.getD 2 0) (q_mt hk).2.2.1) = true := o
  simp only [Bool.and_eq_true] at o
  obtain ⟨⟨⟨⟨⟨⟨⟨o1, o2⟩, o3⟩, o4⟩, o5⟩, o6⟩, o7⟩, o8⟩ := o
  have hny := of_decide_eq_true o6
  obtain ⟨e1, e2⟩ := q_pop_s _ he
  intro H locs ls hP hS hl hL hst
  have hst2 := q_oks_iff.mp hst
  rw [e1] at hst2
  have hcd : ∃ cd : Nat → Int, (∀ ex, r = .inr ex → 1 ≤ ex ∧ ex ≤ 4 ∧ q_hB hk ex (cd ex) = true) ∧ q_hv cd r = some (.inl kc) := by
    rcases hr with ⟨rfl, rfl⟩ | ⟨ex, rfl, hx1, hx4, cd, hB, rfl⟩
    · exact ⟨fun _ => 0, (fun ex h => by cases h), rfl⟩
    · exact ⟨fun _ => cd, (fun ex' h => by cases h; exact ⟨hx1, hx4, hB⟩), rfl⟩
  obtain ⟨cd, hcd, hvv⟩ := hcd
  obtain ⟨f, hf⟩ := q_ex_dd (d' := 20 + 1) hc hd
  have hM := q_metH (l := l) (D := D) (cy := cy) cx.1.2.2.2.2.2.2.2.2.1 cx.2.2.2.2.2.2.2.2.2.2.1 cx.2.2.2.2.2.2.2.2.2.2.2 cx.2.2.2.2.2.2.2.1 hny.1 hcd hf (by have := Nat.le_of_ble_eq_true o8; omega) (q_oks_iff.mpr fun x hx => hst2 x (by simp [hx]))
  rw [hvv] at hM
  have hbl : FrameBlind (va_Pc (vs.map (q_tv ad)) (fun U => WJ D cy ad n σ U.heap ∧ va_K D vcl (q_ty cy) U ∧ q_Th A U ∧ q_Tn U)) := fun a U g mk z => ⟨z.1, z.2.1, va_K.moved (u := U) (U := U.calling g mk a) (Vm.Alike.refl U.vm) z.2.2.1, z.2.2.2.1, z.2.2.2.2⟩
  have hts := cx.1.2.2.2.2.1
  have hgoodw : ∀ w ∈ q_hcw hk :: gt, w ∈ gt := fun w hw => by
    rcases List.mem_cons.mp hw with rfl | hw
    · exact q_wd_in o5
    · exact hw
  have hK : Back l R p e below s args (q_mt hk).1 3 8 (PreOf R 1 6 _) (PostOf _ 1 6 A) := va_backW (hh := q_hhs hk) (bytes := (q_mt hk).2.1) (maxL := (q_mt hk).2.2.1) (ret := (q_mt hk).2.2.2) hM hbl rfl rfl (by have := cx.2.2.2.2.2.2.2.2.1; show 20 + 7 + 1 ≤ _; omega) (by have := cx.2.2.2.2.2.2.2.2.2.1; have := Nat.le_of_ble_eq_true o7; show 8 + ((q_mt hk).2.2.1 + 11) + (49 * 20 + 160) ≤ _; omega)
    (fun w hw a' U hW => word_at hW (good_of_word (gt_good w (hgoodw w hw))) (hts w (hgoodw w hw))) List.mem_cons_self (fun a' U hW => word_at hW (good_of_word (gt_good _ (q_wd_in o4))) (hts _ (q_wd_in o4)))
  intro T hT X
  obtain ⟨mk, methM, cM, hnamed, hmethM, -, -, -, -, -, -, hsigM⟩ := Cond.codeWith_spec (hts _ (q_wd_in o5))
  have hstatic : methM.isStatic = true := Cond.static_spec hnamed hmethM (hts _ (q_wd_in o3))
  obtain ⟨kP, hkP, -⟩ := className_of_methodNamed hnamed
  have hinitP : kP.init = .initialized := Cond.initialized_spec (findClass_of_methodNamed hnamed) hkP (hts _ (q_wd_in o4))
  have hlen : (vs.map (q_tv ad)).length = methM.sig.parameters.length := by
    have h2 := hny.2.2.2
    rw [hsigM] at h2
    rw [List.length_map, e2]
    exact (Option.some.inj h2).symm
  have hroo : ((rest.map (q_tv ad)).map fun v => v.category).sum ≤ 8 := by
    rw [q_cats]
    exact Nat.le_of_ble_eq_true hro
  obtain ⟨vm₁, X₁, hstep₁⟩ := X.invokestatic cx.1.1 (own := "JobBoardLaw") cx.1.2.2.2.1 (hts _ (q_wd_in o2)) hnamed hmethM hstatic hkP hinitP ⟨hny.2.1, hny.2.2.1⟩ (g := F0 m pc ls (st.map (q_tv ad))) rfl (argsL := vs.map (q_tv ad)) (rest := rest.map (q_tv ad)) hlen (by show st.map (q_tv ad) = _; rw [e1, List.map_append, List.map_reverse]) (by rw [cx.1.2.1]; exact q_dd o1)
  have hz : s.heap.size ≤ T.heap.size := by rw [hT]; exact hS.1
  have hkp : ∀ q, q < s.heap.size → ¬ A q → T.heap[q]? = s.heap[q]? := fun q h1 h2 => by rw [hT]; exact hS.2.1 q h1 h2
  obtain ⟨v, B, X', ⟨g', mk', t, L2, f1, f2, ⟨hv1, hw1, hz1, hk1⟩, f3, f4, f5, f6⟩, hsteps⟩ := hK m meth c ⟨T.setVm vm₁, locs, cells, slots⟩ { F0 m pc ls (st.map (q_tv ad)) with stack := rest.map (q_tv ad) } (.invokestatic oa) mk (vs.map (q_tv ad)).toArray X₁ rfl (by rw [cx.1.2.2.1]; exact hl.1) (by rw [cx.1.2.1]; exact q_dd o1) (lv_room (m := m) (pc := pc) (ls := ls) hroo) (X₁.named hnamed)
    ⟨hc1, hs6, rfl, by show WJ D cy ad n σ T.heap; rw [hT]; exact hP, va_K.moved X₁.warmed.alike cx.1.2.2.2.2.2.1, fun k1 h1 h2 w hw => (cx.2.2.2.2.2.1 k1 h1 h2 w hw).go (V := T.setVm vm₁) X₁.warmed hz hkp, q_Tn.moved X₁.warmed.alike cx.2.2.2.2.2.2.1⟩
  cases hv1
  obtain ⟨U, l2, c2, s2⟩ := B
  dsimp only [Pt.U, Pt.locs, Pt.cells, Pt.slots] at X' f1 f2 f3 f5 f6 hsteps
  subst f3
  subst f5
  subst f6
  obtain ⟨t2, a1, b1⟩ := k U.heap (locs ++ L2) ls (by rw [f1]; exact hw1) ⟨Nat.le_trans hz (by rw [f1]; exact hz1), fun q h1 h2 => by
      rw [f1, hk1 q (Nat.lt_of_lt_of_le h1 hz) h2]
      exact hkp q h1 h2, fun q hq => by
      rcases List.mem_append.mp hq with h | h
      · exact hS.2.2 q h
      · exact f4 q h⟩ hl hL ⟨rfl, q_oks_iff.mpr fun x hx => hst2 x (by simp [hx])⟩ U rfl X'
  exact ⟨t2, hstep₁ _ fun acts => by rw [doInvoke_state]; exact hsteps.trans a1, b1⟩
end LAW
