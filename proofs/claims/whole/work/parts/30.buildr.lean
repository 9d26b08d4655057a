/-! The builder: runs and contracts. Ours, written by buildz.py run -/
section RSD
variable {mt : Nat → MRow} {p : Program} {l : Launch} {e : Env} {R : Room} {s : State} {m : MethodId} {args : Array Value} {below : List Frame} {meth : Method} {c : Code} {Q : State → Prop} {D : va_G} {cy : Nat → ClassId} {h0 b0 z0 k pc : Nat} {mx : Nat × Nat} {g : Nat → PL → List PV → CL → Option CL} {cal : Nat → List PV → CL → Option CL} {r : CL} {L : PL} {st : List PV} {σ : CL} {ox : Int} {oa ob : Nat} {ol : List Nat}
theorem r_all {ci : Nat} (cx : r_Cx mt p s m meth c args k D cy h0 b0 z0 R mx) (hg : ∀ pc L st σ, g pc L st σ = some r → r_W mt p l e R s m args below meth c Q D cy h0 b0 z0 k mx pc L st σ) {rm : Nat → Room} (hrm : ∀ k1, (rm k1).cells = (r_cost k1).1 ∧ (rm k1).slots = (r_cost k1).2 ∧ (rm k1).frames + 1 ≤ R.frames ∧ 49 + (rm k1).locals ≤ R.locals) (hcl : ∀ k1 vs τ τ1, cal k1 vs τ = some τ1 → (vs.map q_cat).sum ≤ (mt k1).2.2.1 → (0 < τ.length ∧ τ1.length = τ.length + (r_cost k1).1 ∧ r_szs τ1 = r_szs τ + (r_cost k1).2 ∧ τ1.length ≤ mx.1 ∧ r_szs τ1 ≤ mx.2) ∧ r_CT l mt (rm k1) D cy h0 (r_cost k1).1 (r_cost k1).2 k1 vs τ τ1) (hQ : ci = 76 → ∀ H locs ls cells slots, va_P D vcl (r_ws cy h0 0 r) H → va_S (r_A h0) s.heap H locs → (cells = R.cells ∧ slots = R.slots) → decode c.code pc = .ok (.return_, 1) → meth.sig.returnType = none → W p l e R s m args below meth c H locs cells slots Q (F0 m pc ls [])) (ho : r_okB mt k pc (ci, ox, oa, ob, ol) = true) (h : r_stp mx g cal pc (ci, ox, oa, ob, ol) L st σ = some r) : r_W mt p l e R s m args below meth c Q D cy h0 b0 z0 k mx pc L st σ := by
  have hm : ci ∈ [0, 1, 3, 6, 10, 12, 18, 19, 21, 36, 42, 52, 54, 56, 62, 63, 64, 67, 76, 83, 84, 85, 86, 87, 88, 89, 90, 91, 92] := by
    unfold r_okB at ho
    dsimp only at ho
    split at ho <;> first | (simp; done) | cases ho
  simp only [List.mem_cons, List.not_mem_nil, or_false] at hm
  rcases hm with rfl | rfl | rfl | rfl | rfl | rfl | rfl | rfl | rfl | rfl | rfl | rfl | rfl | rfl | rfl | rfl | rfl | rfl | rfl | rfl | rfl | rfl | rfl | rfl | rfl | rfl | rfl | rfl | rfl
  · exact y_0 cx hg ho h
  · exact y_1 cx hg ho h
  · exact y_3 cx hg ho h
  · exact y_6 cx hg ho h
  · exact y_10 cx hg ho h
  · exact y_12 cx hg ho h
  · exact y_18 cx hg ho h
  · exact y_19 cx hg ho h
  · exact y_21 cx hg ho h
  · exact y_36 cx hg ho h
  · exact y_42 cx hg ho h
  · exact y_52 cx hg ho h
  · exact y_54 cx hg ho h
  · exact y_56 cx hg ho h
  · exact y_62 cx hg ho h
  · exact y_63 cx hg ho h
  · exact y_64 cx hg ho h
  · exact y_67 cx hg hrm hcl ho h
  · replace ho : (q_dc (mt k).2.1 pc .return_ 1 && decide ((mt k).2.2.2 = none)) = true := ho
    simp only [Bool.and_eq_true] at ho
    cases st with
    | cons _ _ =>
      replace h : none = some r := h
      cases h
    | nil =>
      replace h : (bif Nat.beq σ.length mx.1 && Nat.beq (r_szs σ) mx.2 then some σ else none) = some r := h
      obtain ⟨hb, h⟩ := q_bf h
      simp only [Bool.and_eq_true] at hb
      have e1 := Nat.eq_of_beq_eq_true hb.1
      have e2 := Nat.eq_of_beq_eq_true hb.2
      cases h
      intro H locs ls cells slots hP hS hl hz
      exact hQ rfl H locs ls cells slots hP hS ⟨by have := cx.2.2.2.2.2.2.2.2.2.2.2.2.1; omega, by have := cx.2.2.2.2.2.2.2.2.2.2.2.2.2.1; omega⟩ (by rw [cx.2.1]; exact q_dd ho.1) (cx.2.2.2.2.2.2.1.trans (of_decide_eq_true ho.2))
  · exact y_83 cx hg ho h
  · exact y_84 cx hg ho h
  · exact y_85 cx hg ho h
  · exact y_86 cx hg ho h
  · exact y_87 cx hg ho h
  · exact y_88 cx hg ho h
  · exact y_89 cx hg hrm hcl ho h
  · exact y_90 cx hg hrm hcl ho h
  · exact y_91 cx hg ho h
  · exact y_92 cx hg ho h
end RSD
def r_rm (d : Nat) (q : Nat × Nat) : Room := { frames := d + 1, cells := q.1, slots := q.2, locals := 49 * d + 60 }
theorem r_call_s {mx : Nat × Nat} {mc ms : Nat} {σ σ1 : CL} {x : Option CL} (h : r_call mx mc ms σ x = some σ1) : x = some σ1 ∧ 0 < σ.length ∧ σ1.length = σ.length + mc ∧ r_szs σ1 = r_szs σ + ms ∧ σ1.length ≤ mx.1 ∧ r_szs σ1 ≤ mx.2 := by
  unfold r_call at h
  obtain ⟨y, e_y, h⟩ := Option.bind_eq_some_iff.mp h
  obtain ⟨hb, h⟩ := q_bf h
  cases h
  simp only [Bool.and_eq_true] at hb
  exact ⟨e_y, Nat.blt_eq.mp hb.2, Nat.eq_of_beq_eq_true hb.1.1.1.1, Nat.eq_of_beq_eq_true hb.1.1.1.2, Nat.le_of_ble_eq_true hb.1.1.2, Nat.le_of_ble_eq_true hb.1.2⟩
section RRN
variable {l : Launch} {D : va_G} {cy : Nat → ClassId} {h0 : Nat}
theorem r_frame (d : Nat)
    (hd : ∀ d', d = d' + 1 → ∀ (f k mc ms : Nat) (vs : List PV) (σ σ1 : CL), r_run d' f k (σ.length + mc, r_szs σ + ms) 0 (q_args 0 vs) [] σ = some σ1 → (vs.map q_cat).sum ≤ (r_mt k).2.2.1 → r_CT l r_mt (r_rm d' (mc, ms)) D cy h0 mc ms k vs σ σ1)
    {p : Program} {e : Env} {R : Room} {s : State} {m : MethodId} {args : Array Value} {below : List Frame} {meth : Method} {c : Code} {k b0 z0 : Nat} {mx : Nat × Nat} (cx : r_Cx r_mt p s m meth c args k D cy h0 b0 z0 R mx) (hfr : d + 1 ≤ R.frames) (hlo : 49 * d + 60 ≤ R.locals) {σ1 : CL} :
    ∀ (f pc : Nat) (L : PL) (st : List PV) (σ : CL), r_run d f k mx pc L st σ = some σ1 → r_W r_mt p l e R s m args below meth c (MQ below (r_Q D cy h0 σ1) args s R.cells R.slots (r_A h0)) D cy h0 b0 z0 k mx pc L st σ := by
  intro f
  induction f with
  | zero => intro pc L st σ h; cases h
  | succ f ih =>
    intro pc L st σ h
    unfold r_run at h
    cases ho : r_pr k pc with
    | none => rw [ho] at h; cases h
    | some o =>
      rw [ho] at h
      obtain ⟨ci, ox, oa, ob, ol⟩ := o
      have hok := r_pr_ok k pc _ ho
      have hret : ci = 76 → ∀ H locs ls cells slots, va_P D vcl (r_ws cy h0 0 σ1) H → va_S (r_A h0) s.heap H locs → (cells = R.cells ∧ slots = R.slots) → decode c.code pc = .ok (.return_, 1) → meth.sig.returnType = none → W p l e R s m args below meth c H locs cells slots (MQ below (r_Q D cy h0 σ1) args s R.cells R.slots (r_A h0)) (F0 m pc ls []) := by
        intro _ H locs ls cells slots hP hS hc hdg hr
        obtain ⟨rfl, rfl⟩ := hc
        exact W.vret cx.1 rfl hr (fun _ ht _ => ⟨rfl, by rw [ht]; exact hP, hS.F ht⟩) hS.2.2 hdg cx.2.2.2.2.2.2.2.1
      cases d with
      | zero => exact r_all (rm := fun k1 => { frames := 0, cells := (r_cost k1).1, slots := (r_cost k1).2, locals := 0 }) cx ih (fun k1 => ⟨rfl, rfl, hfr, by show 49 + 0 ≤ _; omega⟩) (fun _ _ _ _ hz => by cases hz) hret hok h
      | succ d' => exact r_all (rm := fun k1 => r_rm d' (r_cost k1)) cx ih (fun k1 => ⟨rfl, rfl, hfr, by show 49 + (49 * d' + 60) ≤ _; omega⟩) (fun k1 vs τ τ1 hz hw => by
          obtain ⟨h1, h2⟩ := r_call_s hz
          exact ⟨h2, hd d' rfl f k1 _ _ vs τ τ1 h1 hw⟩) hret hok h
theorem r_cx {p : Program} {e : Env} {s s₁ : State} {m : MethodId} {args : Array Value} {below : List Frame} {meth : Method} {c : Code} {k mc ms d : Nat} {σ : CL} (B : BodyLoose p l (r_mt k).1 (headSpec (r_code r_mt k :: gt) (r_rm d (mc, ms))) (r_mt k).2.1 (r_mt k).2.2.1 (r_mt k).2.2.2 e s m args below meth c s₁) (hml : c.maxLocals = (r_mt k).2.2.1) (hsz : s.heap.size = h0 + σ.length) (hK : va_K D vcl (q_ty cy) s) (hN : r_Nw s) : r_Cx r_mt p s m meth c args k D cy h0 σ.length (r_szs σ) (r_rm d (mc, ms)) (σ.length + mc, r_szs σ + ms) :=
  ⟨B.exec, B.bytes, hml, findClass_of_methodNamed B.named, fun w h => atoms_spec (ws := r_code r_mt k :: gt) B.pre w (List.mem_cons_of_mem _ h), hK, B.returns, B.notSynchronized, (name_of_methodNamed B.named B.method).1, hsz, Nat.le_add_left 1 d, (by show 40 ≤ 49 * d + 60; omega), Nat.add_comm mc _, Nat.add_comm ms _, hN⟩
/-- a constructor's contract, out of what holds in its frame -/
theorem r_metW (hpl : ∀ k, plainName (r_mt k).1.cls = true) {d k mc ms : Nat} {vs : List PV} {σ σ1 : CL} (hw : (vs.map q_cat).sum ≤ (r_mt k).2.2.1)
    (body : ∀ {p : Program} {e : Env} {s : State} {m : MethodId} {args : Array Value} {below : List Frame} {meth : Method} {c : Code}, r_Cx r_mt p s m meth c args k D cy h0 σ.length (r_szs σ) (r_rm d (mc, ms)) (σ.length + mc, r_szs σ + ms) → r_W r_mt p l e (r_rm d (mc, ms)) s m args below meth c (MQ below (r_Q D cy h0 σ1) args s mc ms (r_A h0)) D cy h0 σ.length (r_szs σ) k (σ.length + mc, r_szs σ + ms) 0 (q_args 0 vs) [] σ) : r_CT l r_mt (r_rm d (mc, ms)) D cy h0 mc ms k vs σ σ1 := by
  refine Met.ofW (cc := (r_mt k).2.1) (maxL := (r_mt k).2.2.1) (ret := (r_mt k).2.2.2) (hpl k) rfl ?_
  intro p e s m args below meth c s₁ B hml hv
  obtain ⟨rfl, hP, hsz, hK, hN⟩ := hv
  rw [lg_entry_eq]
  have he := lv_entry (vs.map (q_tv (r_ad h0))) (n := (r_mt k).2.2.1) (by rw [q_sl_len, q_cats]; exact hw)
  exact body (r_cx B hml hsz hK hN) s.heap [] _ 0 0 hP va_S.rf (q_args_has he) ⟨Nat.zero_add _, Nat.zero_add _, Nat.le_add_right _ _, Nat.le_add_right _ _⟩
theorem r_met (hpl : ∀ k, plainName (r_mt k).1.cls = true) :
    ∀ (d f k mc ms : Nat) (vs : List PV) (σ σ1 : CL), r_run d f k (σ.length + mc, r_szs σ + ms) 0 (q_args 0 vs) [] σ = some σ1 → (vs.map q_cat).sum ≤ (r_mt k).2.2.1 → r_CT l r_mt (r_rm d (mc, ms)) D cy h0 mc ms k vs σ σ1 := by
  intro d
  induction d with
  | zero => exact fun f k mc ms vs σ σ1 h hw => r_metW hpl hw (fun cx => r_frame 0 (fun d' h => by omega) cx (Nat.le_refl _) (Nat.le_refl _) f 0 _ _ _ h)
  | succ d ih => exact fun f k mc ms vs σ σ1 h hw => r_metW hpl hw (fun cx => r_frame (d + 1) (fun d' h => by
      obtain rfl : d = d' := by omega
      exact ih) cx (Nat.le_refl _) (Nat.le_refl _) f 0 _ _ _ h)
theorem r_mt_pl (k : Nat) : plainName (r_mt k).1.cls = true := by
  have h : r_mtl.all (fun r => plainName r.1.cls) = true := by decide +kernel
  unfold r_mt
  rw [List.getD_eq_getElem?_getD]
  cases hk : r_mtl[k]? with
  | none => decide
  | some r => exact List.all_eq_true.mp h r (List.mem_of_getElem? hk)
end RRN

