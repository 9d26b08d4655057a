/-! Each step of the builder is a step of the machine; contracts of constructors. Ours, written by buildz.py -/
def r_Cx (mt : Nat → MRow) (p : Program) (s : State) (m : MethodId) (meth : Method) (c : Code) (args : Array Value) (k : Nat) (D : va_G) (cy : Nat → ClassId) (h0 b0 z0 : Nat) (R : Room) (mx : Nat × Nat) : Prop :=
  p.tables.exec = Jvm.exec ∧ c.code = (mt k).2.1 ∧ c.maxLocals = (mt k).2.2.1 ∧ s.vm.findClass (mt k).1.cls = some m.cls ∧ (∀ w ∈ gt, w.before args s = true) ∧ va_K D vcl (q_ty cy) s ∧ meth.sig.returnType = (mt k).2.2.2 ∧ meth.locks = false ∧ meth.name = (mt k).1.name ∧ s.heap.size = h0 + b0 ∧ 1 ≤ R.frames ∧ 40 ≤ R.locals ∧ R.cells + b0 = mx.1 ∧ R.slots + z0 = mx.2 ∧ r_Nw s
def r_W (mt : Nat → MRow) (p : Program) (l : Launch) (e : Env) (R : Room) (s : State) (m : MethodId) (args : Array Value) (below : List Frame) (meth : Method) (c : Code) (Q : State → Prop) (D : va_G) (cy : Nat → ClassId) (h0 b0 z0 k : Nat) (mx : Nat × Nat) (pc : Nat) (L : PL) (st : List PV) (σ : CL) : Prop :=
  ∀ (H : Heap) (locs : List Loc) (ls : Array Slot) (cells slots : Nat), va_P D vcl (r_ws cy h0 0 σ) H → va_S (r_A h0) s.heap H locs → lv_has ls (mt k).2.2.1 (q_ll (r_ad h0) (mt k).2.2.1 L) → (cells + b0 = σ.length ∧ slots + z0 = r_szs σ ∧ σ.length ≤ mx.1 ∧ r_szs σ ≤ mx.2) → W p l e R s m args below meth c H locs cells slots Q (F0 m pc ls (st.map (q_tv (r_ad h0))))
theorem r_szs_set {σ : CL} {i : Nat} {e e' : PE} (h : σ[i]? = some e) (hs : r_sz e' = r_sz e) : r_szs (σ.set i e') = r_szs σ := by
  unfold r_szs
  rw [List.map_set, hs]
  congr 1
  apply List.ext_getElem?
  intro j
  by_cases hj : j = i
  · subst hj
    have hl : j < σ.length := (List.getElem?_eq_some_iff.mp h).1
    rw [List.getElem?_set_self (by rw [List.length_map]; exact hl), List.getElem?_map, h]
    rfl
  · rw [List.getElem?_set_ne (Ne.symm hj)]
theorem r_szs_app {σ : CL} {e : PE} : r_szs (σ ++ [e]) = r_szs σ + r_sz e := by
  unfold r_szs
  rw [List.map_append, List.sum_append]
  simp
theorem r_obj_s {e : PE} {w : Nat × List PV} (h : r_obj e = some w) : e = .inl w := by
  cases e with
  | inl o => cases h; rfl
  | inr a => cases h
theorem r_arr_s {e : PE} {w : Nat × List PV} (h : r_arr e = some w) : e = .inr w := by
  cases e with
  | inl o => cases h
  | inr a => cases h; rfl
theorem r_ws_o {cy : Nat → ClassId} {h0 : Nat} {σ : CL} {i : Nat} {w : Nat × List PV} (h : σ[i]? = some (.inl w)) : (r_ws cy h0 0 σ)[i]? = some (h0 + i, .inr (w.1, w.2.map (q_tv (r_ad h0)))) := by
  rw [r_ws_at, h, Nat.zero_add]
  rfl
theorem r_ws_a {cy : Nat → ClassId} {h0 : Nat} {σ : CL} {i : Nat} {w : Nat × List PV} (h : σ[i]? = some (.inr w)) : (r_ws cy h0 0 σ)[i]? = some (h0 + i, .inl (cy w.1, w.2.length, r_row h0 w.1 w.2)) := by
  rw [r_ws_at, h, Nat.zero_add]
  rfl
theorem r_tv_h (h0 : Nat) (q : Nat × Nat) : q_tv (r_ad h0) (.inr (.inr (some q))) = .ref (h0 + q.2) := rfl
theorem r_set_o {cy : Nat → ClassId} {h0 : Nat} {σ : CL} {i f ci : Nat} {fs : List PV} {v : PV} : (r_ws cy h0 0 σ).set i (h0 + i, .inr (ci, (fs.map (q_tv (r_ad h0))).set f (q_tv (r_ad h0) v))) = r_ws cy h0 0 (σ.set i (.inl (ci, fs.set f v))) := by
  rw [← r_ws_set]
  show _ = (r_ws cy h0 0 σ).set i (h0 + i, .inr (ci, (fs.set f v).map (q_tv (r_ad h0))))
  rw [List.map_set]
theorem r_getD_set {es : List PV} {j : Nat} {v d : PV} (hj : j < es.length) (t : Nat) : (es.set j v).getD t d = if t = j then v else es.getD t d := by
  rw [List.getD_eq_getElem?_getD, List.getD_eq_getElem?_getD]
  by_cases ht : t = j
  · subst ht
    rw [List.getElem?_set_self hj, if_pos rfl]
    rfl
  · rw [List.getElem?_set_ne (Ne.symm ht), if_neg ht]
theorem r_lt {j : Int32} {n : Nat} (h : q_in j n = true) : j.toNatClampNeg < n := by
  have h2 := of_decide_eq_true (p := ¬ (j < 0 ∨ n ≤ j.toNatClampNeg)) h
  exact Nat.not_le.mp fun q => h2 (Or.inr q)
theorem r_in {j : Int32} {n : Nat} (h : q_in j n = true) : vp_in j n := of_decide_eq_true (p := ¬ (j < 0 ∨ n ≤ j.toNatClampNeg)) h
theorem r_up_i {h0 : Nat} {es : List PV} {j : Nat} {x : Int32} (hj : j < es.length) : r_row h0 0 (es.set j (.inl x)) = .inl (upd (fun t => r_i (es.getD t (.inl 0))) j x) := by
  show Sum.inl _ = Sum.inl _
  congr 1
  funext t
  rw [r_getD_set hj]
  by_cases ht : t = j <;> simp [upd, ht, r_i]
theorem r_up_l {h0 : Nat} {es : List PV} {j : Nat} {x : Int64} (hj : j < es.length) : r_row h0 1 (es.set j (.inr (.inl x))) = .inr (.inl (vp_updL (fun t => r_l (es.getD t (.inl 0))) j x)) := by
  show Sum.inr (Sum.inl _) = Sum.inr (Sum.inl _)
  congr 2
  funext t
  rw [r_getD_set hj]
  by_cases ht : t = j <;> simp [vp_updL, ht, r_l]
theorem r_row_q {h0 t : Nat} {es : List PV} (h : 2 < t) : r_row h0 t es = .inr (.inr (.inr (.inr (fun j => r_r h0 (es.getD j (.inl 0)))))) := by
  match t, h with
  | _ + 3, _ => rfl
theorem r_up_q {h0 t : Nat} {es : List PV} {j : Nat} {q : Nat × Nat} (h : 2 < t) (hj : j < es.length) : r_row h0 t (es.set j (.inr (.inr (some q)))) = .inr (.inr (.inr (.inr (va_up (fun t => r_r h0 (es.getD t (.inl 0))) j (some (h0 + q.2)))))) := by
  rw [r_row_q h]
  congr 4
  funext t
  rw [r_getD_set hj]
  by_cases ht : t = j <;> simp [va_up, ht, r_r]
theorem r_clN : ∀ ci, ci < 10 → vcl[ci]? = some ((q_cl ci).1, (q_cl ci).2.1, (q_cl ci).2.2) := by
  intro ci h
  match ci, h with
  | 0, _ => rfl
  | 1, _ => rfl
  | 2, _ => rfl
  | 3, _ => rfl
  | 4, _ => rfl
  | 5, _ => rfl
  | 6, _ => rfl
  | 7, _ => rfl
  | 8, _ => rfl
  | 9, _ => rfl
  | _ + 10, h => omega
def r_dvv (ci : Nat) : List Value := (r_dv ci).map (q_tv (r_ad 0))
theorem r_dv_h : ∀ ci, ci < 10 → ∀ h0, (r_dv ci).map (q_tv (r_ad h0)) = r_dvv ci := by
  intro ci h h0
  match ci, h with
  | 0, _ => rfl
  | 1, _ => rfl
  | 2, _ => rfl
  | 3, _ => rfl
  | 4, _ => rfl
  | 5, _ => rfl
  | 6, _ => rfl
  | 7, _ => rfl
  | 8, _ => rfl
  | 9, _ => rfl
  | _ + 10, h => omega
theorem r_dv_len : ∀ ci, ci < 10 → (r_dv ci).length = (q_cl ci).2.2 := by
  intro ci h
  match ci, h with
  | 0, _ => rfl
  | 1, _ => rfl
  | 2, _ => rfl
  | 3, _ => rfl
  | 4, _ => rfl
  | 5, _ => rfl
  | 6, _ => rfl
  | 7, _ => rfl
  | 8, _ => rfl
  | 9, _ => rfl
  | _ + 10, h => omega
theorem r_cls : ∀ ci, ci < 10 → ∃ ty : Nat → FieldType, (∀ k, k < (q_cl ci).2.2 → parseFieldDescriptor ((q_cl ci).2.1 k).2.2.1 = some (ty k)) ∧ ∀ j, j < (q_cl ci).2.2 → defaultValue (ty j) = vp_V (r_dvv ci) j := by
  intro ci h
  match ci, h with
  | 0, _ => exact ⟨t_JB, t_JB_ok, by decide⟩
  | 1, _ => exact ⟨t_Board, t_Board_ok, by decide⟩
  | 2, _ => exact ⟨t_Tuple, t_Tuple_ok, by decide⟩
  | 3, _ => exact ⟨t_Fields, t_Fields_ok, by decide⟩
  | 4, _ => exact ⟨t_Pattern, t_Pattern_ok, by decide⟩
  | 5, _ => exact ⟨t_Finding, t_Finding_ok, by decide⟩
  | 6, _ => exact ⟨t_Session, t_Session_ok, by decide⟩
  | 7, _ => exact ⟨t_Order, t_Order_ok, by decide⟩
  | 8, _ => exact ⟨t_Line, t_Line_ok, by decide⟩
  | 9, _ => exact ⟨t_M, t_M_ok, by decide⟩
  | _ + 10, h => omega
/-- the class of a row -/
theorem r_cy {D : va_G} {cy : Nat → ClassId} {U : State} (hK : va_K D vcl (q_ty cy) U) {t : Nat} {ty : FieldType} {cA : ClassId} (ht : (q_ty cy)[t]? = some (cy t, ty)) (hA : va_RA U cA ty) : cA = cy t := by
  have h1 := (hK.2 t _ ht).2
  cases ty with
  | object C =>
    obtain ⟨-, -, -, -, -, e1⟩ := h1
    obtain ⟨-, -, -, -, -, e2⟩ := hA
    exact Option.some.inj (e2.symm.trans e1)
  | _ => exact Option.some.inj ((show U.vm.findClass _ = some cA from hA).symm.trans h1)
theorem r_ty_p {cy : Nat → ClassId} : ∀ t, t < 3 → (q_ty cy)[t]? = some (cy t, newarray.typeOf (r_at t)) := by
  intro t h
  match t, h with
  | 0, _ => rfl
  | 1, _ => rfl
  | 2, _ => rfl
  | _ + 3, h => omega
theorem r_ty_q {cy : Nat → ClassId} : ∀ t, 2 < t → t < 7 → (q_ty cy)[t]? = some (cy t, .object (q_cl (r_ek t)).1) := by
  intro t h h2
  match t, h, h2 with
  | 3, _, _ => rfl
  | 4, _, _ => rfl
  | 5, _, _ => rfl
  | 6, _, _ => rfl
  | 0, h, _ => omega
  | 1, h, _ => omega
  | 2, h, _ => omega
  | _ + 7, _, h => omega
theorem r_new_row (h0 : Nat) : ∀ (t n : Nat), t < 3 → ∀ cA : ClassId, vp_cell cA (n, r_row h0 t (List.replicate n (r_d t))) = arrV cA n (fun _ => defaultValue (newarray.typeOf (r_at t))) := by
  intro t n h cA
  have hg : ∀ (d : PV) (j : Nat), j < n → (List.replicate n d).getD j (.inl 0) = d := fun d j hj => by
    rw [List.getD_eq_getElem?_getD, List.getElem?_replicate, if_pos hj]
    rfl
  have hx : ∀ f g : Nat → Value, (∀ j, j < n → f j = g j) → arrV cA n f = arrV cA n g := fun f g hfg => by
    unfold arrV
    congr 1
    apply Array.ext
    · simp
    · intro i h1 h2
      simp at h1
      simp [hfg i h1]
  match t, h with
  | 0, _ => exact hx _ _ fun j hj => by show Value.int (r_i ((List.replicate n (r_d 0)).getD j (.inl 0))) = _; rw [hg _ j hj]
  | 1, _ => exact hx _ _ fun j hj => by show Value.long (r_l ((List.replicate n (r_d 1)).getD j (.inl 0))) = _; rw [hg _ j hj]
  | 2, _ => exact hx _ _ fun j hj => by show Value.int (r_i ((List.replicate n (r_d 2)).getD j (.inl 0))) = _; rw [hg _ j hj]
  | _ + 3, h => omega
theorem r_new_q (h0 n : Nat) : ∀ t, 2 < t → r_row h0 t (List.replicate n (.inr (.inr none))) = .inr (.inr (.inr (.inr (fun _ => none)))) := by
  intro t h
  rw [r_row_q h]
  congr 4
  funext j
  rw [List.getD_eq_getElem?_getD, List.getElem?_replicate]
  by_cases hj : j < n
  · rw [if_pos hj]; rfl
  · rw [if_neg hj]; rfl
section RSN
variable {mt : Nat → MRow} {p : Program} {l : Launch} {e : Env} {R : Room} {s : State} {m : MethodId} {args : Array Value} {below : List Frame} {meth : Method} {c : Code} {Q : State → Prop} {D : va_G} {cy : Nat → ClassId} {h0 b0 z0 k pc : Nat} {mx : Nat × Nat} {g : Nat → PL → List PV → CL → Option CL} {cal : Nat → List PV → CL → Option CL} {r : CL} {L : PL} {st : List PV} {σ : CL} {ox : Int} {oa ob : Nat} {ol : List Nat}
theorem y_0 (cx : r_Cx mt p s m meth c args k D cy h0 b0 z0 R mx) (hg : ∀ pc L st σ, g pc L st σ = some r → r_W mt p l e R s m args below meth c Q D cy h0 b0 z0 k mx pc L st σ) (ho : r_okB mt k pc (0, ox, oa, ob, ol) = true) (h : r_stp mx g cal pc (0, ox, oa, ob, ol) L st σ = some r) : r_W mt p l e R s m args below meth c Q D cy h0 b0 z0 k mx pc L st σ := by
  replace ho : q_dc (mt k).2.1 pc (.iconst ox) 1 = true := ho
  replace h : (g (pc + 1) L (.inl (Int32.ofInt ox) :: st) σ) = some r := h
  intro H locs ls cells slots hP hS hl hz
  exact lv_iconst cx.1 cx.2.1 (q_dd ho) rfl (hg _ _ _ _ h H locs ls cells slots hP hS hl hz)
theorem y_1 (cx : r_Cx mt p s m meth c args k D cy h0 b0 z0 R mx) (hg : ∀ pc L st σ, g pc L st σ = some r → r_W mt p l e R s m args below meth c Q D cy h0 b0 z0 k mx pc L st σ) (ho : r_okB mt k pc (1, ox, oa, ob, ol) = true) (h : r_stp mx g cal pc (1, ox, oa, ob, ol) L st σ = some r) : r_W mt p l e R s m args below meth c Q D cy h0 b0 z0 k mx pc L st σ := by
  replace ho : (q_dc (mt k).2.1 pc (.bipush ox) 2 && decide ((Int8.ofInt ox).toInt32 = Int32.ofInt ox)) = true := ho
  simp only [Bool.and_eq_true] at ho
  replace h : (g (pc + 2) L (.inl (Int32.ofInt ox) :: st) σ) = some r := h
  intro H locs ls cells slots hP hS hl hz
  exact lv_bipush cx.1 cx.2.1 (q_dd ho.1) (of_decide_eq_true ho.2) (hg _ _ _ _ h H locs ls cells slots hP hS hl hz)
theorem y_3 (cx : r_Cx mt p s m meth c args k D cy h0 b0 z0 R mx) (hg : ∀ pc L st σ, g pc L st σ = some r → r_W mt p l e R s m args below meth c Q D cy h0 b0 z0 k mx pc L st σ) (ho : r_okB mt k pc (3, ox, oa, ob, ol) = true) (h : r_stp mx g cal pc (3, ox, oa, ob, ol) L st σ = some r) : r_W mt p l e R s m args below meth c Q D cy h0 b0 z0 k mx pc L st σ := by
  replace ho : (q_dc (mt k).2.1 pc (.lconst (Fin.ofNat 2 oa)) 1 && decide (Int64.ofNat ((Fin.ofNat 2 oa : Fin 2) : Nat) = Int64.ofInt ox)) = true := ho
  simp only [Bool.and_eq_true] at ho
  replace h : (g (pc + 1) L (.inr (.inl (Int64.ofInt ox)) :: st) σ) = some r := h
  intro H locs ls cells slots hP hS hl hz
  exact lv_lconst cx.1 cx.2.1 (q_dd ho.1) (of_decide_eq_true ho.2) (hg _ _ _ _ h H locs ls cells slots hP hS hl hz)
theorem y_6 (cx : r_Cx mt p s m meth c args k D cy h0 b0 z0 R mx) (hg : ∀ pc L st σ, g pc L st σ = some r → r_W mt p l e R s m args below meth c Q D cy h0 b0 z0 k mx pc L st σ) (ho : r_okB mt k pc (6, ox, oa, ob, ol) = true) (h : r_stp mx g cal pc (6, ox, oa, ob, ol) L st σ = some r) : r_W mt p l e R s m args below meth c Q D cy h0 b0 z0 k mx pc L st σ := by
  replace ho : (q_dc (mt k).2.1 pc (.iload_n (Fin.ofNat 4 oa)) 1 && decide (((Fin.ofNat 4 oa : Fin 4) : Nat) = oa) && Nat.blt oa (mt k).2.2.1) = true := ho
  simp only [Bool.and_eq_true] at ho
  replace h : ((L oa).bind fun v => (q_pI (v :: st)).bind fun _ => g (pc + 1) L (v :: st) σ) = some r := h
  obtain ⟨v, e_v, h⟩ := Option.bind_eq_some_iff.mp h
  obtain ⟨w, e_w, h⟩ := Option.bind_eq_some_iff.mp h
  have e_1 := (List.cons.inj (q_pI_s e_w)).1
  intro H locs ls cells slots hP hS hl hz
  have h1 := q_ll_at hl (Nat.blt_eq.mp ho.2) e_v
  have h3 := hg _ _ _ _ h H locs ls cells slots hP hS hl hz
  rw [e_1] at h1 h3
  exact lv_iload_n cx.1 cx.2.1 (q_dd ho.1.1) (of_decide_eq_true ho.1.2) h1 h3
theorem y_10 (cx : r_Cx mt p s m meth c args k D cy h0 b0 z0 R mx) (hg : ∀ pc L st σ, g pc L st σ = some r → r_W mt p l e R s m args below meth c Q D cy h0 b0 z0 k mx pc L st σ) (ho : r_okB mt k pc (10, ox, oa, ob, ol) = true) (h : r_stp mx g cal pc (10, ox, oa, ob, ol) L st σ = some r) : r_W mt p l e R s m args below meth c Q D cy h0 b0 z0 k mx pc L st σ := by
  replace ho : (q_dc (mt k).2.1 pc (.aload_n (Fin.ofNat 4 oa)) 1 && decide (((Fin.ofNat 4 oa : Fin 4) : Nat) = oa) && Nat.blt oa (mt k).2.2.1) = true := ho
  simp only [Bool.and_eq_true] at ho
  replace h : ((L oa).bind fun v => (q_pN (v :: st)).bind fun _ => g (pc + 1) L (v :: st) σ) = some r := h
  obtain ⟨v, e_v, h⟩ := Option.bind_eq_some_iff.mp h
  obtain ⟨w, e_w, h⟩ := Option.bind_eq_some_iff.mp h
  have e_1 := (List.cons.inj (q_pN_s e_w)).1
  intro H locs ls cells slots hP hS hl hz
  have h1 := q_ll_at hl (Nat.blt_eq.mp ho.2) e_v
  have h3 := hg _ _ _ _ h H locs ls cells slots hP hS hl hz
  rw [e_1] at h1 h3
  obtain ⟨w1, w2⟩ := w
  cases w1 with
  | none => exact lv_aload_nN cx.1 cx.2.1 (q_dd ho.1.1) (of_decide_eq_true ho.1.2) h1 h3
  | some q => exact lv_aload_n cx.1 cx.2.1 (q_dd ho.1.1) (of_decide_eq_true ho.1.2) h1 h3
theorem y_12 (cx : r_Cx mt p s m meth c args k D cy h0 b0 z0 R mx) (hg : ∀ pc L st σ, g pc L st σ = some r → r_W mt p l e R s m args below meth c Q D cy h0 b0 z0 k mx pc L st σ) (ho : r_okB mt k pc (12, ox, oa, ob, ol) = true) (h : r_stp mx g cal pc (12, ox, oa, ob, ol) L st σ = some r) : r_W mt p l e R s m args below meth c Q D cy h0 b0 z0 k mx pc L st σ := by
  replace ho : (q_dc (mt k).2.1 pc (.istore_n (Fin.ofNat 4 oa)) 1 && decide (((Fin.ofNat 4 oa : Fin 4) : Nat) = oa) && Nat.blt oa (mt k).2.2.1) = true := ho
  simp only [Bool.and_eq_true] at ho
  replace h : ((q_pI st).bind fun q => g (pc + 1) (q_s1 L oa (.inl q.1)) q.2 σ) = some r := h
  obtain ⟨q, e_q, h⟩ := Option.bind_eq_some_iff.mp h
  rw [q_pI_s e_q]
  intro H locs ls cells slots hP hS hl hz
  exact lv_istore_n cx.1 cx.2.1 (q_dd ho.1.1) (of_decide_eq_true ho.1.2) hl (Nat.blt_eq.mp ho.2) rfl (fun ls' hl' => hg _ _ _ _ h H locs ls' cells slots hP hS (q_s1_has hl') hz)
theorem y_18 (cx : r_Cx mt p s m meth c args k D cy h0 b0 z0 R mx) (hg : ∀ pc L st σ, g pc L st σ = some r → r_W mt p l e R s m args below meth c Q D cy h0 b0 z0 k mx pc L st σ) (ho : r_okB mt k pc (18, ox, oa, ob, ol) = true) (h : r_stp mx g cal pc (18, ox, oa, ob, ol) L st σ = some r) : r_W mt p l e R s m args below meth c Q D cy h0 b0 z0 k mx pc L st σ := by
  replace ho : (q_dc (mt k).2.1 pc (.iinc oa ox) 3 && Nat.blt oa (mt k).2.2.1) = true := ho
  simp only [Bool.and_eq_true] at ho
  replace h : ((L oa).bind fun v => (q_pI [v]).bind fun q => g (pc + 3) (q_s1 L oa (.inl (q.1 + Int32.ofInt ox))) st σ) = some r := h
  obtain ⟨v, e_v, h⟩ := Option.bind_eq_some_iff.mp h
  obtain ⟨q, e_q, h⟩ := Option.bind_eq_some_iff.mp h
  have e_1 := (List.cons.inj (q_pI_s e_q)).1
  intro H locs ls cells slots hP hS hl hz
  rw [e_1] at e_v
  have h2 : (oa, Value.int q.1) ∈ q_ll (r_ad h0) (mt k).2.2.1 L := q_ll_in (Nat.blt_eq.mp ho.2) e_v
  obtain ⟨j, hj⟩ := List.getElem?_of_mem h2
  exact lv_iinc (k := j) cx.1 cx.2.1 (q_dd ho.1) hl hj rfl (Nat.blt_eq.mp ho.2) rfl (fun ls' hl' => hg _ _ _ _ h H locs ls' cells slots hP hS (q_s1_has (v := .inl (q.1 + Int32.ofInt ox)) hl') hz)
theorem y_19 (cx : r_Cx mt p s m meth c args k D cy h0 b0 z0 R mx) (hg : ∀ pc L st σ, g pc L st σ = some r → r_W mt p l e R s m args below meth c Q D cy h0 b0 z0 k mx pc L st σ) (ho : r_okB mt k pc (19, ox, oa, ob, ol) = true) (h : r_stp mx g cal pc (19, ox, oa, ob, ol) L st σ = some r) : r_W mt p l e R s m args below meth c Q D cy h0 b0 z0 k mx pc L st σ := by
  replace ho : q_dc (mt k).2.1 pc .iadd 1 = true := ho
  replace h : ((q_pI st).bind fun y => (q_pI y.2).bind fun x => g (pc + 1) L (.inl (x.1 + y.1) :: x.2) σ) = some r := h
  obtain ⟨y, e_y, h⟩ := Option.bind_eq_some_iff.mp h
  obtain ⟨x, e_x, h⟩ := Option.bind_eq_some_iff.mp h
  rw [q_pI_s e_y, q_pI_s e_x]
  intro H locs ls cells slots hP hS hl hz
  exact lv_iadd cx.1 cx.2.1 (q_dd ho) (hg _ _ _ _ h H locs ls cells slots hP hS hl hz)
theorem y_21 (cx : r_Cx mt p s m meth c args k D cy h0 b0 z0 R mx) (hg : ∀ pc L st σ, g pc L st σ = some r → r_W mt p l e R s m args below meth c Q D cy h0 b0 z0 k mx pc L st σ) (ho : r_okB mt k pc (21, ox, oa, ob, ol) = true) (h : r_stp mx g cal pc (21, ox, oa, ob, ol) L st σ = some r) : r_W mt p l e R s m args below meth c Q D cy h0 b0 z0 k mx pc L st σ := by
  replace ho : q_dc (mt k).2.1 pc .imul 1 = true := ho
  replace h : ((q_pI st).bind fun y => (q_pI y.2).bind fun x => g (pc + 1) L (.inl (x.1 * y.1) :: x.2) σ) = some r := h
  obtain ⟨y, e_y, h⟩ := Option.bind_eq_some_iff.mp h
  obtain ⟨x, e_x, h⟩ := Option.bind_eq_some_iff.mp h
  rw [q_pI_s e_y, q_pI_s e_x]
  intro H locs ls cells slots hP hS hl hz
  exact lv_imul cx.1 cx.2.1 (q_dd ho) (hg _ _ _ _ h H locs ls cells slots hP hS hl hz)
theorem y_36 (cx : r_Cx mt p s m meth c args k D cy h0 b0 z0 R mx) (hg : ∀ pc L st σ, g pc L st σ = some r → r_W mt p l e R s m args below meth c Q D cy h0 b0 z0 k mx pc L st σ) (ho : r_okB mt k pc (36, ox, oa, ob, ol) = true) (h : r_stp mx g cal pc (36, ox, oa, ob, ol) L st σ = some r) : r_W mt p l e R s m args below meth c Q D cy h0 b0 z0 k mx pc L st σ := by
  replace ho : q_dc (mt k).2.1 pc .dup 1 = true := ho
  replace h : ((q_p1 st).bind fun x => g (pc + 1) L (x.1 :: x.1 :: x.2) σ) = some r := h
  obtain ⟨x, e_x, h⟩ := Option.bind_eq_some_iff.mp h
  rw [q_p1_s e_x]
  intro H locs ls cells slots hP hS hl hz
  exact lv_dup cx.1 cx.2.1 (q_dd ho) (q_p1_c e_x) (hg _ _ _ _ h H locs ls cells slots hP hS hl hz)
theorem y_42 (cx : r_Cx mt p s m meth c args k D cy h0 b0 z0 R mx) (hg : ∀ pc L st σ, g pc L st σ = some r → r_W mt p l e R s m args below meth c Q D cy h0 b0 z0 k mx pc L st σ) (ho : r_okB mt k pc (42, ox, oa, ob, ol) = true) (h : r_stp mx g cal pc (42, ox, oa, ob, ol) L st σ = some r) : r_W mt p l e R s m args below meth c Q D cy h0 b0 z0 k mx pc L st σ := by
  replace ho : (q_dc (mt k).2.1 pc (.goto ox) 3 && q_tg pc ox oa) = true := ho
  simp only [Bool.and_eq_true] at ho
  replace h : g oa L st σ = some r := h
  intro H locs ls cells slots hP hS hl hz
  exact lv_goto cx.1 cx.2.1 (q_dd ho.1) (of_decide_eq_true ho.2) (hg _ _ _ _ h H locs ls cells slots hP hS hl hz)
theorem y_52 (cx : r_Cx mt p s m meth c args k D cy h0 b0 z0 R mx) (hg : ∀ pc L st σ, g pc L st σ = some r → r_W mt p l e R s m args below meth c Q D cy h0 b0 z0 k mx pc L st σ) (ho : r_okB mt k pc (52, ox, oa, ob, ol) = true) (h : r_stp mx g cal pc (52, ox, oa, ob, ol) L st σ = some r) : r_W mt p l e R s m args below meth c Q D cy h0 b0 z0 k mx pc L st σ := by
  replace ho : (q_dc (mt k).2.1 pc (.if_icmp .ge ox) 3 && q_tg pc ox oa) = true := ho
  simp only [Bool.and_eq_true] at ho
  replace h : ((q_pI st).bind fun y => (q_pI y.2).bind fun x => if y.1 ≤ x.1 then g oa L x.2 σ else g (pc + 3) L x.2 σ) = some r := h
  obtain ⟨y, e_y, h⟩ := Option.bind_eq_some_iff.mp h
  obtain ⟨x, e_x, h⟩ := Option.bind_eq_some_iff.mp h
  rw [q_pI_s e_y, q_pI_s e_x]
  intro H locs ls cells slots hP hS hl hz
  exact lv_icmp_ge cx.1 cx.2.1 (q_dd ho.1) (of_decide_eq_true ho.2) (fun hc => hg _ _ _ _ ((if_pos hc).symm.trans h) H locs ls cells slots hP hS hl hz) (fun hc => hg _ _ _ _ ((if_neg hc).symm.trans h) H locs ls cells slots hP hS hl hz)
theorem y_54 (cx : r_Cx mt p s m meth c args k D cy h0 b0 z0 R mx) (hg : ∀ pc L st σ, g pc L st σ = some r → r_W mt p l e R s m args below meth c Q D cy h0 b0 z0 k mx pc L st σ) (ho : r_okB mt k pc (54, ox, oa, ob, ol) = true) (h : r_stp mx g cal pc (54, ox, oa, ob, ol) L st σ = some r) : r_W mt p l e R s m args below meth c Q D cy h0 b0 z0 k mx pc L st σ := by
  replace ho : (q_dc (mt k).2.1 pc (.if_icmp .le ox) 3 && q_tg pc ox oa) = true := ho
  simp only [Bool.and_eq_true] at ho
  replace h : ((q_pI st).bind fun y => (q_pI y.2).bind fun x => if x.1 ≤ y.1 then g oa L x.2 σ else g (pc + 3) L x.2 σ) = some r := h
  obtain ⟨y, e_y, h⟩ := Option.bind_eq_some_iff.mp h
  obtain ⟨x, e_x, h⟩ := Option.bind_eq_some_iff.mp h
  rw [q_pI_s e_y, q_pI_s e_x]
  intro H locs ls cells slots hP hS hl hz
  exact lv_icmp_le cx.1 cx.2.1 (q_dd ho.1) (of_decide_eq_true ho.2) (fun hc => hg _ _ _ _ ((if_pos hc).symm.trans h) H locs ls cells slots hP hS hl hz) (fun hc => hg _ _ _ _ ((if_neg hc).symm.trans h) H locs ls cells slots hP hS hl hz)
theorem y_56 (cx : r_Cx mt p s m meth c args k D cy h0 b0 z0 R mx) (hg : ∀ pc L st σ, g pc L st σ = some r → r_W mt p l e R s m args below meth c Q D cy h0 b0 z0 k mx pc L st σ) (ho : r_okB mt k pc (56, ox, oa, ob, ol) = true) (h : r_stp mx g cal pc (56, ox, oa, ob, ol) L st σ = some r) : r_W mt p l e R s m args below meth c Q D cy h0 b0 z0 k mx pc L st σ := by
  replace ho : (q_dc (mt k).2.1 pc (.getfield oa) 3 && q_wm (.fieldLink (mt k).1.cls oa ((q_cl (ol.getD 0 0)).2.1 ob).1 ((q_cl (ol.getD 0 0)).2.1 ob).2.1 ((q_cl (ol.getD 0 0)).2.1 ob).2.2.1) && Nat.blt (ol.getD 0 0) 10 && Nat.blt ob (q_cl (ol.getD 0 0)).2.2) = true := ho
  simp only [Bool.and_eq_true] at ho
  replace h : ((q_pR st).bind fun q => (σ[q.1.2]?).bind fun e => (r_obj e).bind fun w => bif Nat.beq w.1 (ol.getD 0 0) then (w.2[ob]?).bind fun v => g (pc + 3) L (v :: q.2) σ else none) = some r := h
  obtain ⟨q, e_q, h⟩ := Option.bind_eq_some_iff.mp h
  obtain ⟨e1, e_e, h⟩ := Option.bind_eq_some_iff.mp h
  obtain ⟨w, e_w, h⟩ := Option.bind_eq_some_iff.mp h
  obtain ⟨hb, h⟩ := q_bf h
  obtain ⟨v, e_v, h⟩ := Option.bind_eq_some_iff.mp h
  rw [r_obj_s e_w] at e_e
  rw [← Nat.eq_of_beq_eq_true hb] at ho
  rw [q_pR_s e_q]
  intro H locs ls cells slots hP hS hl hz
  have hcl := r_clN w.1 (Nat.blt_eq.mp ho.1.2)
  exact va_get (Ts := gt) (v := q_tv (r_ad h0) v) cx.1 cx.2.1 cx.2.2.2.2.1 (vc_ok w.1 _ hcl).1 cx.2.2.2.1 cx.2.2.2.2.2.1 hP q.1.2 (r_ws_o e_e) hcl ob (Nat.blt_eq.mp ho.2) (cx.2.2.2.2.1 _ (q_wm_in ho.1.1.2)) (fun _ h => h) (by rw [List.getElem?_map, e_v]; rfl) (q_dd ho.1.1.1) (hg _ _ _ _ h H locs ls cells slots hP hS hl hz)
theorem y_62 (cx : r_Cx mt p s m meth c args k D cy h0 b0 z0 R mx) (hg : ∀ pc L st σ, g pc L st σ = some r → r_W mt p l e R s m args below meth c Q D cy h0 b0 z0 k mx pc L st σ) (ho : r_okB mt k pc (62, ox, oa, ob, ol) = true) (h : r_stp mx g cal pc (62, ox, oa, ob, ol) L st σ = some r) : r_W mt p l e R s m args below meth c Q D cy h0 b0 z0 k mx pc L st σ := by
  replace ho : q_dc (mt k).2.1 pc .iastore 1 = true := ho
  replace h : ((q_pI st).bind fun v => (q_pI v.2).bind fun j => (q_pR j.2).bind fun q => (σ[q.1.2]?).bind fun e => (r_arr e).bind fun w => bif Nat.beq w.1 0 && q_in j.1 w.2.length then g (pc + 1) L q.2 (σ.set q.1.2 (.inr (w.1, w.2.set j.1.toNatClampNeg (.inl v.1)))) else none) = some r := h
  obtain ⟨v, e_v, h⟩ := Option.bind_eq_some_iff.mp h
  obtain ⟨j, e_j, h⟩ := Option.bind_eq_some_iff.mp h
  obtain ⟨q, e_q, h⟩ := Option.bind_eq_some_iff.mp h
  obtain ⟨e1, e_e, h⟩ := Option.bind_eq_some_iff.mp h
  obtain ⟨w, e_w, h⟩ := Option.bind_eq_some_iff.mp h
  obtain ⟨hb, h⟩ := q_bf h
  rw [Bool.and_eq_true] at hb
  rw [r_arr_s e_w] at e_e
  obtain ⟨w1, w2⟩ := w
  obtain rfl : w1 = 0 := Nat.eq_of_beq_eq_true hb.1
  rw [q_pI_s e_v, q_pI_s e_j, q_pR_s e_q]
  intro H locs ls cells slots hP hS hl hz
  refine va_iast cx.1 cx.2.1 cx.2.2.2.2.2.1 hP (r_D σ) hS q.1.2 0 (r_ws_a e_e) rfl (r_in hb.2) (q_dd ho) (fun H1 locs1 hP1 _ hS1 => ?_)
  refine hg _ _ _ _ h H1 locs1 ls cells slots ?_ hS1 hl ⟨by rw [List.length_set]; exact hz.1, by rw [r_szs_set e_e (by show (w2.set _ _).length = w2.length; rw [List.length_set])]; exact hz.2.1, by rw [List.length_set]; exact hz.2.2.1, by rw [r_szs_set e_e (by show (w2.set _ _).length = w2.length; rw [List.length_set])]; exact hz.2.2.2⟩
  rw [← r_ws_set]
  show va_P D vcl ((r_ws cy h0 0 σ).set q.1.2 (h0 + q.1.2, .inl (cy 0, (w2.set j.1.toNatClampNeg (.inl v.1)).length, r_row h0 0 (w2.set j.1.toNatClampNeg (.inl v.1))))) H1
  rw [List.length_set, r_up_i (r_lt hb.2)]
  exact hP1
theorem y_63 (cx : r_Cx mt p s m meth c args k D cy h0 b0 z0 R mx) (hg : ∀ pc L st σ, g pc L st σ = some r → r_W mt p l e R s m args below meth c Q D cy h0 b0 z0 k mx pc L st σ) (ho : r_okB mt k pc (63, ox, oa, ob, ol) = true) (h : r_stp mx g cal pc (63, ox, oa, ob, ol) L st σ = some r) : r_W mt p l e R s m args below meth c Q D cy h0 b0 z0 k mx pc L st σ := by
  replace ho : q_dc (mt k).2.1 pc .lastore 1 = true := ho
  replace h : ((q_pL st).bind fun v => (q_pI v.2).bind fun j => (q_pR j.2).bind fun q => (σ[q.1.2]?).bind fun e => (r_arr e).bind fun w => bif Nat.beq w.1 1 && q_in j.1 w.2.length then g (pc + 1) L q.2 (σ.set q.1.2 (.inr (w.1, w.2.set j.1.toNatClampNeg (.inr (.inl v.1))))) else none) = some r := h
  obtain ⟨v, e_v, h⟩ := Option.bind_eq_some_iff.mp h
  obtain ⟨j, e_j, h⟩ := Option.bind_eq_some_iff.mp h
  obtain ⟨q, e_q, h⟩ := Option.bind_eq_some_iff.mp h
  obtain ⟨e1, e_e, h⟩ := Option.bind_eq_some_iff.mp h
  obtain ⟨w, e_w, h⟩ := Option.bind_eq_some_iff.mp h
  obtain ⟨hb, h⟩ := q_bf h
  rw [Bool.and_eq_true] at hb
  rw [r_arr_s e_w] at e_e
  obtain ⟨w1, w2⟩ := w
  obtain rfl : w1 = 1 := Nat.eq_of_beq_eq_true hb.1
  rw [q_pL_s e_v, q_pI_s e_j, q_pR_s e_q]
  intro H locs ls cells slots hP hS hl hz
  refine va_last cx.1 cx.2.1 cx.2.2.2.2.2.1 hP (r_D σ) hS q.1.2 1 (r_ws_a e_e) rfl (r_in hb.2) (q_dd ho) (fun H1 locs1 hP1 _ hS1 => ?_)
  refine hg _ _ _ _ h H1 locs1 ls cells slots ?_ hS1 hl ⟨by rw [List.length_set]; exact hz.1, by rw [r_szs_set e_e (by show (w2.set _ _).length = w2.length; rw [List.length_set])]; exact hz.2.1, by rw [List.length_set]; exact hz.2.2.1, by rw [r_szs_set e_e (by show (w2.set _ _).length = w2.length; rw [List.length_set])]; exact hz.2.2.2⟩
  rw [← r_ws_set]
  show va_P D vcl ((r_ws cy h0 0 σ).set q.1.2 (h0 + q.1.2, .inl (cy 1, (w2.set j.1.toNatClampNeg (.inr (.inl v.1))).length, r_row h0 1 (w2.set j.1.toNatClampNeg (.inr (.inl v.1)))))) H1
  rw [List.length_set, r_up_l (r_lt hb.2)]
  exact hP1
theorem y_64 (cx : r_Cx mt p s m meth c args k D cy h0 b0 z0 R mx) (hg : ∀ pc L st σ, g pc L st σ = some r → r_W mt p l e R s m args below meth c Q D cy h0 b0 z0 k mx pc L st σ) (ho : r_okB mt k pc (64, ox, oa, ob, ol) = true) (h : r_stp mx g cal pc (64, ox, oa, ob, ol) L st σ = some r) : r_W mt p l e R s m args below meth c Q D cy h0 b0 z0 k mx pc L st σ := by
  replace ho : q_dc (mt k).2.1 pc .aastore 1 = true := ho
  replace h : ((q_pR st).bind fun v => (q_pI v.2).bind fun j => (q_pR j.2).bind fun q => (σ[q.1.2]?).bind fun e => (r_arr e).bind fun w => (σ[v.1.2]?).bind fun e2 => (r_obj e2).bind fun w2 => bif Nat.blt 2 w.1 && Nat.blt w.1 7 && Nat.beq (r_ek w.1) w2.1 && q_in j.1 w.2.length then g (pc + 1) L q.2 (σ.set q.1.2 (.inr (w.1, w.2.set j.1.toNatClampNeg (.inr (.inr (some v.1)))))) else none) = some r := h
  obtain ⟨v, e_v, h⟩ := Option.bind_eq_some_iff.mp h
  obtain ⟨j, e_j, h⟩ := Option.bind_eq_some_iff.mp h
  obtain ⟨q, e_q, h⟩ := Option.bind_eq_some_iff.mp h
  obtain ⟨e1, e_e, h⟩ := Option.bind_eq_some_iff.mp h
  obtain ⟨w, e_w, h⟩ := Option.bind_eq_some_iff.mp h
  obtain ⟨e2, e_e2, h⟩ := Option.bind_eq_some_iff.mp h
  obtain ⟨w2, e_w2, h⟩ := Option.bind_eq_some_iff.mp h
  obtain ⟨hb, h⟩ := q_bf h
  simp only [Bool.and_eq_true] at hb
  rw [r_arr_s e_w] at e_e
  rw [r_obj_s e_w2] at e_e2
  obtain ⟨w1, ws⟩ := w
  have h2 : 2 < w1 := Nat.blt_eq.mp hb.1.1.1
  have h7 : w1 < 7 := Nat.blt_eq.mp hb.1.1.2
  have hk : r_ek w1 = w2.1 := Nat.eq_of_beq_eq_true hb.1.2
  have hk10 : w2.1 < 10 := by rw [← hk]; unfold r_ek; split <;> decide
  rw [q_pR_s e_v, q_pI_s e_j, q_pR_s e_q]
  intro H locs ls cells slots hP hS hl hz
  have ha := r_ws_a (cy := cy) (h0 := h0) e_e
  rw [r_row_q h2] at ha
  have hty := r_ty_q (cy := cy) w1 h2 h7
  rw [hk] at hty
  refine va_astq (r := ((q_cl w2.1).1, (q_cl w2.1).2.1, (q_cl w2.1).2.2)) cx.1 cx.2.1 cx.2.2.2.2.2.1 hP (r_D σ) hS q.1.2 w1 v.1.2 w2.1 ha hty (r_ws_o e_e2) (r_clN w2.1 hk10) (r_in hb.2) (q_dd ho) (fun H1 locs1 hP1 _ hS1 => ?_)
  refine hg _ _ _ _ h H1 locs1 ls cells slots ?_ hS1 hl ⟨by rw [List.length_set]; exact hz.1, by rw [r_szs_set e_e (by show (ws.set _ _).length = ws.length; rw [List.length_set])]; exact hz.2.1, by rw [List.length_set]; exact hz.2.2.1, by rw [r_szs_set e_e (by show (ws.set _ _).length = ws.length; rw [List.length_set])]; exact hz.2.2.2⟩
  rw [← r_ws_set]
  show va_P D vcl ((r_ws cy h0 0 σ).set q.1.2 (h0 + q.1.2, .inl (cy w1, (ws.set j.1.toNatClampNeg (.inr (.inr (some v.1)))).length, r_row h0 w1 (ws.set j.1.toNatClampNeg (.inr (.inr (some v.1))))))) H1
  rw [List.length_set, r_up_q h2 (r_lt hb.2)]
  exact hP1
theorem y_83 (cx : r_Cx mt p s m meth c args k D cy h0 b0 z0 R mx) (hg : ∀ pc L st σ, g pc L st σ = some r → r_W mt p l e R s m args below meth c Q D cy h0 b0 z0 k mx pc L st σ) (ho : r_okB mt k pc (83, ox, oa, ob, ol) = true) (h : r_stp mx g cal pc (83, ox, oa, ob, ol) L st σ = some r) : r_W mt p l e R s m args below meth c Q D cy h0 b0 z0 k mx pc L st σ := by
  replace ho : (q_dc (mt k).2.1 pc (.putfield oa) 3 && q_wm (.fieldLink (mt k).1.cls oa ((q_cl (ol.getD 0 0)).2.1 ob).1 ((q_cl (ol.getD 0 0)).2.1 ob).2.1 ((q_cl (ol.getD 0 0)).2.1 ob).2.2.1) && Nat.blt (ol.getD 0 0) 10 && Nat.blt ob (q_cl (ol.getD 0 0)).2.2 && decide (((q_cl (ol.getD 0 0)).2.1 ob).2.2.1 = "I") && decide (((q_cl (ol.getD 0 0)).2.1 ob).1 = (mt k).1.cls) && decide ((mt k).1.name = "<init>")) = true := ho
  simp only [Bool.and_eq_true] at ho
  replace h : ((q_pI st).bind fun v => (q_pR v.2).bind fun q => (σ[q.1.2]?).bind fun e => (r_obj e).bind fun w => bif Nat.beq w.1 (ol.getD 0 0) && Nat.blt ob w.2.length then g (pc + 3) L q.2 (σ.set q.1.2 (.inl (w.1, w.2.set ob (.inl v.1)))) else none) = some r := h
  obtain ⟨v, e_v, h⟩ := Option.bind_eq_some_iff.mp h
  obtain ⟨q, e_q, h⟩ := Option.bind_eq_some_iff.mp h
  obtain ⟨e1, e_e, h⟩ := Option.bind_eq_some_iff.mp h
  obtain ⟨w, e_w, h⟩ := Option.bind_eq_some_iff.mp h
  obtain ⟨hb, h⟩ := q_bf h
  rw [Bool.and_eq_true] at hb
  rw [r_obj_s e_w] at e_e
  rw [← Nat.eq_of_beq_eq_true hb.1] at ho
  obtain ⟨⟨⟨⟨⟨⟨o1, o2⟩, o3⟩, o4⟩, o5⟩, o6⟩, o7⟩ := ho
  rw [q_pI_s e_v, q_pR_s e_q]
  intro H locs ls cells slots hP hS hl hz
  have hcl := r_clN w.1 (Nat.blt_eq.mp o3)
  obtain ⟨hin, ty0, hty, hnm⟩ := vc_ok w.1 _ hcl
  obtain ⟨ty, hd, hn, hf⟩ : ∃ ty, parseFieldDescriptor ((q_cl w.1).2.1 ob).2.2.1 = some ty ∧ narrow ty (.int v.1) = .int v.1 ∧ fits ty (.int v.1) = true := ⟨.int, by rw [of_decide_eq_true o5]; rfl, rfl, rfl⟩
  have hgo : ∀ (H1 : Heap) (locs1 : List Loc), va_P D vcl ((r_ws cy h0 0 σ).set q.1.2 (h0 + q.1.2, .inr (w.1, (w.2.map (q_tv (r_ad h0))).set ob (.int v.1)))) H1 → va_S (r_A h0) s.heap H1 locs1 → W p l e R s m args below meth c H1 locs1 cells slots Q (F0 m (pc + 3) ls (q.2.map (q_tv (r_ad h0)))) := fun H1 locs1 hP1 hS1 => by
    refine hg _ _ _ _ h H1 locs1 ls cells slots ?_ hS1 hl ⟨by rw [List.length_set]; exact hz.1, by rw [r_szs_set e_e (by show (w.2.set _ _).length = w.2.length; rw [List.length_set])]; exact hz.2.1, by rw [List.length_set]; exact hz.2.2.1, by rw [r_szs_set e_e (by show (w.2.set _ _).length = w.2.length; rw [List.length_set])]; exact hz.2.2.2⟩
    rw [← r_set_o]
    exact hP1
  have hlen : ob < (w.2.map (q_tv (r_ad h0))).length := by rw [List.length_map]; exact Nat.blt_eq.mp hb.2
  cases hfin : ((q_cl w.1).2.1 ob).2.2.2 with
  | true => exact va_putF (Ts := gt) (ty := ty) (v := .int v.1) cx.1 cx.2.1 cx.2.2.2.2.1 hin ty0 hty hnm cx.2.2.2.1 cx.2.2.2.2.2.1 hP (r_D σ) hS q.1.2 (r_ws_o e_e) hcl ob (Nat.blt_eq.mp o4) (cx.2.2.2.2.1 _ (q_wm_in o2)) (fun _ h => h) hfin (cx.2.2.2.2.2.2.2.2.1.trans (of_decide_eq_true o7)) (of_decide_eq_true o6) hd hn hf hlen (q_dd o1) (fun H1 locs1 hP1 _ hS1 => hgo H1 locs1 hP1 hS1)
  | false => exact va_put (Ts := gt) (ty := ty) (v := .int v.1) cx.1 cx.2.1 cx.2.2.2.2.1 hin ty0 hty hnm cx.2.2.2.1 cx.2.2.2.2.2.1 hP (r_D σ) hS q.1.2 (r_ws_o e_e) hcl ob (Nat.blt_eq.mp o4) (cx.2.2.2.2.1 _ (q_wm_in o2)) (fun _ h => h) hfin hd hn hf hlen (q_dd o1) (fun H1 locs1 hP1 _ hS1 => hgo H1 locs1 hP1 hS1)
theorem y_84 (cx : r_Cx mt p s m meth c args k D cy h0 b0 z0 R mx) (hg : ∀ pc L st σ, g pc L st σ = some r → r_W mt p l e R s m args below meth c Q D cy h0 b0 z0 k mx pc L st σ) (ho : r_okB mt k pc (84, ox, oa, ob, ol) = true) (h : r_stp mx g cal pc (84, ox, oa, ob, ol) L st σ = some r) : r_W mt p l e R s m args below meth c Q D cy h0 b0 z0 k mx pc L st σ := by
  replace ho : (q_dc (mt k).2.1 pc (.putfield oa) 3 && q_wm (.fieldLink (mt k).1.cls oa ((q_cl (ol.getD 0 0)).2.1 ob).1 ((q_cl (ol.getD 0 0)).2.1 ob).2.1 ((q_cl (ol.getD 0 0)).2.1 ob).2.2.1) && Nat.blt (ol.getD 0 0) 10 && Nat.blt ob (q_cl (ol.getD 0 0)).2.2 && r_isr (parseFieldDescriptor ((q_cl (ol.getD 0 0)).2.1 ob).2.2.1) && decide (((q_cl (ol.getD 0 0)).2.1 ob).1 = (mt k).1.cls) && decide ((mt k).1.name = "<init>")) = true := ho
  simp only [Bool.and_eq_true] at ho
  replace h : ((q_pR st).bind fun v => (q_pR v.2).bind fun q => (σ[q.1.2]?).bind fun e => (r_obj e).bind fun w => bif Nat.beq w.1 (ol.getD 0 0) && Nat.blt ob w.2.length then g (pc + 3) L q.2 (σ.set q.1.2 (.inl (w.1, w.2.set ob (.inr (.inr (some v.1)))))) else none) = some r := h
  obtain ⟨v, e_v, h⟩ := Option.bind_eq_some_iff.mp h
  obtain ⟨q, e_q, h⟩ := Option.bind_eq_some_iff.mp h
  obtain ⟨e1, e_e, h⟩ := Option.bind_eq_some_iff.mp h
  obtain ⟨w, e_w, h⟩ := Option.bind_eq_some_iff.mp h
  obtain ⟨hb, h⟩ := q_bf h
  rw [Bool.and_eq_true] at hb
  rw [r_obj_s e_w] at e_e
  rw [← Nat.eq_of_beq_eq_true hb.1] at ho
  obtain ⟨⟨⟨⟨⟨⟨o1, o2⟩, o3⟩, o4⟩, o5⟩, o6⟩, o7⟩ := ho
  rw [q_pR_s e_v, q_pR_s e_q]
  intro H locs ls cells slots hP hS hl hz
  have hcl := r_clN w.1 (Nat.blt_eq.mp o3)
  obtain ⟨hin, ty0, hty, hnm⟩ := vc_ok w.1 _ hcl
  obtain ⟨ty, hd, hn, hf⟩ : ∃ ty, parseFieldDescriptor ((q_cl w.1).2.1 ob).2.2.1 = some ty ∧ narrow ty (.ref (h0 + v.1.2)) = .ref (h0 + v.1.2) ∧ fits ty (.ref (h0 + v.1.2)) = true := by
    generalize parseFieldDescriptor ((q_cl w.1).2.1 ob).2.2.1 = t at o5
    match t, o5 with
    | some (.object C), _ => exact ⟨_, rfl, rfl, rfl⟩
    | some (.array C), _ => exact ⟨_, rfl, rfl, rfl⟩
  have hgo : ∀ (H1 : Heap) (locs1 : List Loc), va_P D vcl ((r_ws cy h0 0 σ).set q.1.2 (h0 + q.1.2, .inr (w.1, (w.2.map (q_tv (r_ad h0))).set ob (.ref (h0 + v.1.2))))) H1 → va_S (r_A h0) s.heap H1 locs1 → W p l e R s m args below meth c H1 locs1 cells slots Q (F0 m (pc + 3) ls (q.2.map (q_tv (r_ad h0)))) := fun H1 locs1 hP1 hS1 => by
    refine hg _ _ _ _ h H1 locs1 ls cells slots ?_ hS1 hl ⟨by rw [List.length_set]; exact hz.1, by rw [r_szs_set e_e (by show (w.2.set _ _).length = w.2.length; rw [List.length_set])]; exact hz.2.1, by rw [List.length_set]; exact hz.2.2.1, by rw [r_szs_set e_e (by show (w.2.set _ _).length = w.2.length; rw [List.length_set])]; exact hz.2.2.2⟩
    rw [← r_set_o]
    exact hP1
  have hlen : ob < (w.2.map (q_tv (r_ad h0))).length := by rw [List.length_map]; exact Nat.blt_eq.mp hb.2
  cases hfin : ((q_cl w.1).2.1 ob).2.2.2 with
  | true => exact va_putF (Ts := gt) (ty := ty) (v := .ref (h0 + v.1.2)) cx.1 cx.2.1 cx.2.2.2.2.1 hin ty0 hty hnm cx.2.2.2.1 cx.2.2.2.2.2.1 hP (r_D σ) hS q.1.2 (r_ws_o e_e) hcl ob (Nat.blt_eq.mp o4) (cx.2.2.2.2.1 _ (q_wm_in o2)) (fun _ h => h) hfin (cx.2.2.2.2.2.2.2.2.1.trans (of_decide_eq_true o7)) (of_decide_eq_true o6) hd hn hf hlen (q_dd o1) (fun H1 locs1 hP1 _ hS1 => hgo H1 locs1 hP1 hS1)
  | false => exact va_put (Ts := gt) (ty := ty) (v := .ref (h0 + v.1.2)) cx.1 cx.2.1 cx.2.2.2.2.1 hin ty0 hty hnm cx.2.2.2.1 cx.2.2.2.2.2.1 hP (r_D σ) hS q.1.2 (r_ws_o e_e) hcl ob (Nat.blt_eq.mp o4) (cx.2.2.2.2.1 _ (q_wm_in o2)) (fun _ h => h) hfin hd hn hf hlen (q_dd o1) (fun H1 locs1 hP1 _ hS1 => hgo H1 locs1 hP1 hS1)
theorem y_85 (cx : r_Cx mt p s m meth c args k D cy h0 b0 z0 R mx) (hg : ∀ pc L st σ, g pc L st σ = some r → r_W mt p l e R s m args below meth c Q D cy h0 b0 z0 k mx pc L st σ) (ho : r_okB mt k pc (85, ox, oa, ob, ol) = true) (h : r_stp mx g cal pc (85, ox, oa, ob, ol) L st σ = some r) : r_W mt p l e R s m args below meth c Q D cy h0 b0 z0 k mx pc L st σ := by
  replace ho : (q_dc (mt k).2.1 pc (.newarray (r_at oa)) 2 && q_wm (.arrayClass (newarray.typeOf (r_at oa)))) = true := ho
  simp only [Bool.and_eq_true] at ho
  replace h : ((q_pI st).bind fun j => bif decide (¬ j.1 < 0) && Nat.ble j.1.toNatClampNeg 1000 && Nat.ble (σ.length + 1) mx.1 && Nat.ble (r_szs σ + j.1.toNatClampNeg) mx.2 && Nat.blt oa 3 then g (pc + 2) L (.inr (.inr (some (0, σ.length))) :: j.2) (σ ++ [.inr (oa, List.replicate j.1.toNatClampNeg (r_d oa))]) else none) = some r := h
  obtain ⟨j, e_j, h⟩ := Option.bind_eq_some_iff.mp h
  obtain ⟨hb, h⟩ := q_bf h
  simp only [Bool.and_eq_true] at hb
  obtain ⟨⟨⟨⟨b1, b2⟩, b3⟩, b4⟩, b5⟩ := hb
  replace b1 := of_decide_eq_true b1
  replace b2 := Nat.le_of_ble_eq_true b2
  replace b3 := Nat.le_of_ble_eq_true b3
  replace b4 := Nat.le_of_ble_eq_true b4
  replace b5 := Nat.blt_eq.mp b5
  rw [q_pI_s e_j]
  have hll := List.length_replicate (n := j.1.toNatClampNeg) (a := r_d oa)
  intro H locs ls cells slots hP hS hl hz
  have hby : j.1.toNatClampNeg * componentBytes (newarray.typeOf (r_at oa)) ≤ 536870912 := by
    have : componentBytes (newarray.typeOf (r_at oa)) ≤ 8 := by
      match oa, b5 with
      | 0, _ => decide
      | 1, _ => decide
      | 2, _ => decide
    calc j.1.toNatClampNeg * componentBytes (newarray.typeOf (r_at oa)) ≤ 1000 * 8 := Nat.mul_le_mul b2 this
      _ ≤ 536870912 := by decide
  have hcc : cells + 1 ≤ R.cells := by have := cx.2.2.2.2.2.2.2.2.2.2.2.2.1; omega
  have hss : slots + j.1.toNatClampNeg ≤ R.slots := by have := cx.2.2.2.2.2.2.2.2.2.2.2.2.2.1; omega
  refine va_newa (a0 := (j.1.toNatClampNeg, r_row h0 oa (List.replicate j.1.toNatClampNeg (r_d oa)))) cx.1 cx.2.1 (cx.2.2.2.2.1 _ (q_wm_in ho.2)) rfl cx.2.2.2.2.2.1 hP (r_D σ) hS (fun q hq => by have := cx.2.2.2.2.2.2.2.2.2.1; show h0 ≤ q; omega) (r_new_row h0 oa _ b5) b1 rfl hby hcc hss (q_dd ho.1) (fun q cA H1 hK1 hP1 hD1 hS1 => ?_)
  intro T hT X
  have hsz := X.heapSize
  rw [hT] at hsz
  have hq := r_fresh hP1 hD1 (by have := cx.2.2.2.2.2.2.2.2.2.1; omega)
  subst hq
  have hA := (hK1.2 (q_ty cy).length (cA, newarray.typeOf (r_at oa)) (by simp)).2
  obtain rfl := r_cy cx.2.2.2.2.2.1 (r_ty_p oa b5) hA
  have hP2 : va_P D vcl (r_ws cy h0 0 σ ++ [(h0 + σ.length, r_e cy h0 (.inr (oa, List.replicate j.1.toNatClampNeg (r_d oa))))]) H1 := by
    show va_P D vcl (r_ws cy h0 0 σ ++ [(h0 + σ.length, .inl (cy oa, (List.replicate j.1.toNatClampNeg (r_d oa)).length, r_row h0 oa (List.replicate j.1.toNatClampNeg (r_d oa))))]) H1
    rw [hll]
    exact hP1
  replace hP1 := hP2
  refine hg _ _ _ _ h H1 locs ls (cells + 1) (slots + j.1.toNatClampNeg) ?_ hS1 hl ⟨by rw [List.length_append]; show cells + 1 + b0 = σ.length + 1; omega, by rw [r_szs_app]; show slots + j.1.toNatClampNeg + z0 = r_szs σ + (List.replicate j.1.toNatClampNeg (r_d oa)).length; omega, by rw [List.length_append]; show σ.length + 1 ≤ mx.1; omega, by rw [r_szs_app]; show r_szs σ + (List.replicate j.1.toNatClampNeg (r_d oa)).length ≤ mx.2; omega⟩ T hT X
  rw [r_ws_app, Nat.zero_add]
  exact hP1
theorem y_86 (cx : r_Cx mt p s m meth c args k D cy h0 b0 z0 R mx) (hg : ∀ pc L st σ, g pc L st σ = some r → r_W mt p l e R s m args below meth c Q D cy h0 b0 z0 k mx pc L st σ) (ho : r_okB mt k pc (86, ox, oa, ob, ol) = true) (h : r_stp mx g cal pc (86, ox, oa, ob, ol) L st σ = some r) : r_W mt p l e R s m args below meth c Q D cy h0 b0 z0 k mx pc L st σ := by
  replace ho : (q_dc (mt k).2.1 pc (.anewarray oa) 3 && q_wm (.classLink (mt k).1.cls oa (q_cl (r_ek ob)).1)) = true := ho
  simp only [Bool.and_eq_true] at ho
  replace h : ((q_pI st).bind fun j => bif decide (¬ j.1 < 0) && Nat.ble j.1.toNatClampNeg 1000 && Nat.ble (σ.length + 1) mx.1 && Nat.ble (r_szs σ + j.1.toNatClampNeg) mx.2 && Nat.blt 2 ob && Nat.blt ob 7 then g (pc + 3) L (.inr (.inr (some (0, σ.length))) :: j.2) (σ ++ [.inr (ob, List.replicate j.1.toNatClampNeg (.inr (.inr none)))]) else none) = some r := h
  obtain ⟨j, e_j, h⟩ := Option.bind_eq_some_iff.mp h
  obtain ⟨hb, h⟩ := q_bf h
  simp only [Bool.and_eq_true] at hb
  obtain ⟨⟨⟨⟨⟨b1, b2⟩, b3⟩, b4⟩, b5⟩, b6⟩ := hb
  replace b1 := of_decide_eq_true b1
  replace b2 := Nat.le_of_ble_eq_true b2
  replace b3 := Nat.le_of_ble_eq_true b3
  replace b4 := Nat.le_of_ble_eq_true b4
  replace b5 := Nat.blt_eq.mp b5
  replace b6 := Nat.blt_eq.mp b6
  rw [q_pI_s e_j]
  have hll := List.length_replicate (n := j.1.toNatClampNeg) (a := (Sum.inr (Sum.inr none) : PV))
  intro H locs ls cells slots hP hS hl hz
  have hao : va_AO (q_cl (r_ek ob)).1 s := cx.2.2.2.2.2.2.2.2.2.2.2.2.2.2.2 _ (by
    match ob, b5, b6 with
    | 3, _, _ => decide
    | 4, _, _ => decide
    | 5, _, _ => decide
    | 6, _, _ => decide
    | 0, h, _ => omega
    | 1, h, _ => omega
    | 2, h, _ => omega
    | _ + 7, _, h => omega)
  have hcc : cells + 1 ≤ R.cells := by have := cx.2.2.2.2.2.2.2.2.2.2.2.2.1; omega
  have hss : slots + j.1.toNatClampNeg ≤ R.slots := by have := cx.2.2.2.2.2.2.2.2.2.2.2.2.2.1; omega
  refine va_newq cx.1 cx.2.1 cx.2.2.2.1 (cx.2.2.2.2.1 _ (q_wm_in ho.2)) hao cx.2.2.2.2.2.1 hP (r_D σ) hS (fun q hq => by have := cx.2.2.2.2.2.2.2.2.2.1; show h0 ≤ q; omega) b1 rfl (by omega) hcc hss (q_dd ho.1) (fun q cA H1 hK1 hP1 hD1 hS1 => ?_)
  intro T hT X
  have hsz := X.heapSize
  rw [hT] at hsz
  have hq := r_fresh hP1 hD1 (by have := cx.2.2.2.2.2.2.2.2.2.1; omega)
  subst hq
  have hA := (hK1.2 (q_ty cy).length (cA, .object (q_cl (r_ek ob)).1) (by simp)).2
  obtain rfl := r_cy cx.2.2.2.2.2.1 (r_ty_q ob b5 b6) hA
  have hP2 : va_P D vcl (r_ws cy h0 0 σ ++ [(h0 + σ.length, r_e cy h0 (.inr (ob, List.replicate j.1.toNatClampNeg (.inr (.inr none)))))]) H1 := by
    show va_P D vcl (r_ws cy h0 0 σ ++ [(h0 + σ.length, .inl (cy ob, (List.replicate j.1.toNatClampNeg (Sum.inr (Sum.inr none) : PV)).length, r_row h0 ob (List.replicate j.1.toNatClampNeg (.inr (.inr none)))))]) H1
    rw [hll, r_new_q h0 _ ob b5]
    exact hP1
  replace hP1 := hP2
  refine hg _ _ _ _ h H1 locs ls (cells + 1) (slots + j.1.toNatClampNeg) ?_ hS1 hl ⟨by rw [List.length_append]; show cells + 1 + b0 = σ.length + 1; omega, by rw [r_szs_app]; show slots + j.1.toNatClampNeg + z0 = r_szs σ + (List.replicate j.1.toNatClampNeg (Sum.inr (Sum.inr none) : PV)).length; omega, by rw [List.length_append]; show σ.length + 1 ≤ mx.1; omega, by rw [r_szs_app]; show r_szs σ + (List.replicate j.1.toNatClampNeg (Sum.inr (Sum.inr none) : PV)).length ≤ mx.2; omega⟩ T hT X
  rw [r_ws_app, Nat.zero_add]
  exact hP1
theorem y_87 (cx : r_Cx mt p s m meth c args k D cy h0 b0 z0 R mx) (hg : ∀ pc L st σ, g pc L st σ = some r → r_W mt p l e R s m args below meth c Q D cy h0 b0 z0 k mx pc L st σ) (ho : r_okB mt k pc (87, ox, oa, ob, ol) = true) (h : r_stp mx g cal pc (87, ox, oa, ob, ol) L st σ = some r) : r_W mt p l e R s m args below meth c Q D cy h0 b0 z0 k mx pc L st σ := by
  replace ho : (q_dc (mt k).2.1 pc (.new oa) 3 && q_wm (.classLink (mt k).1.cls oa (q_cl ob).1) && q_wm (.instantiable (q_cl ob).1 (q_cl ob).2.2) && q_wm (.initialized (q_cl ob).1) && Nat.blt ob 10) = true := ho
  simp only [Bool.and_eq_true] at ho
  replace h : (bif Nat.ble (σ.length + 1) mx.1 && Nat.ble (r_szs σ + (r_dv ob).length) mx.2 then g (pc + 3) L (.inr (.inr (some (0, σ.length))) :: st) (σ ++ [.inl (ob, r_dv ob)]) else none) = some r := h
  obtain ⟨hb, h⟩ := q_bf h
  simp only [Bool.and_eq_true] at hb
  have b3 := Nat.le_of_ble_eq_true hb.1
  have b4 := Nat.le_of_ble_eq_true hb.2
  have b5 := Nat.blt_eq.mp ho.2
  have hll := r_dv_len ob b5
  have hcl := r_clN ob b5
  obtain ⟨ty, hty, hdf⟩ := r_cls ob b5
  intro H locs ls cells slots hP hS hl hz
  skip
  have hcc : cells + 1 ≤ R.cells := by have := cx.2.2.2.2.2.2.2.2.2.2.2.2.1; omega
  have hss : slots + (q_cl ob).2.2 ≤ R.slots := by have := cx.2.2.2.2.2.2.2.2.2.2.2.2.2.1; omega
  refine va_new (Ts := gt) (fs := r_dvv ob) cx.1 cx.2.1 cx.2.2.2.2.1 (vc_ok ob _ hcl).1 ty hty cx.2.2.2.1 (cx.2.2.2.2.1 _ (q_wm_in ho.1.1.1.2)) (cx.2.2.2.2.1 _ (q_wm_in ho.1.1.2)) (cx.2.2.2.2.1 _ (q_wm_in ho.1.2)) cx.2.2.2.2.2.1 hP (r_D σ) hS (fun q hq => by have := cx.2.2.2.2.2.2.2.2.2.1; show h0 ≤ q; omega) hcl hdf hcc hss (q_dd ho.1.1.1.1) (fun q H1 hP1 hD1 hS1 => ?_)
  intro T hT X
  have hsz := X.heapSize
  rw [hT] at hsz
  have hq := r_fresh hP1 hD1 (by have := cx.2.2.2.2.2.2.2.2.2.1; omega)
  subst hq
  have hP2 : va_P D vcl (r_ws cy h0 0 σ ++ [(h0 + σ.length, r_e cy h0 (.inl (ob, r_dv ob)))]) H1 := by
    show va_P D vcl (r_ws cy h0 0 σ ++ [(h0 + σ.length, .inr (ob, (r_dv ob).map (q_tv (r_ad h0))))]) H1
    rw [r_dv_h ob b5]
    exact hP1
  replace hP1 := hP2
  refine hg _ _ _ _ h H1 locs ls (cells + 1) (slots + (q_cl ob).2.2) ?_ hS1 hl ⟨by rw [List.length_append]; show cells + 1 + b0 = σ.length + 1; omega, by rw [r_szs_app]; show slots + (q_cl ob).2.2 + z0 = r_szs σ + (r_dv ob).length; omega, by rw [List.length_append]; show σ.length + 1 ≤ mx.1; omega, by rw [r_szs_app]; show r_szs σ + (r_dv ob).length ≤ mx.2; omega⟩ T hT X
  rw [r_ws_app, Nat.zero_add]
  exact hP1
theorem y_88 (cx : r_Cx mt p s m meth c args k D cy h0 b0 z0 R mx) (hg : ∀ pc L st σ, g pc L st σ = some r → r_W mt p l e R s m args below meth c Q D cy h0 b0 z0 k mx pc L st σ) (ho : r_okB mt k pc (88, ox, oa, ob, ol) = true) (h : r_stp mx g cal pc (88, ox, oa, ob, ol) L st σ = some r) : r_W mt p l e R s m args below meth c Q D cy h0 b0 z0 k mx pc L st σ := by
  replace ho : (q_dc (mt k).2.1 pc (.invokespecial oa) 3 && q_wm (.methodLink (mt k).1.cls oa Lib.objectInit) && q_wm (.instanceMethod Lib.objectInit) && q_wm (.code Lib.objectInit ⟨#[0xb1]⟩ 1 none)) = true := ho
  simp only [Bool.and_eq_true] at ho
  replace h : ((q_pR st).bind fun q => bif q_rm q.2 then g (pc + 3) L q.2 σ else none) = some r := h
  obtain ⟨q, e_q, h⟩ := Option.bind_eq_some_iff.mp h
  obtain ⟨hb, h⟩ := q_bf h
  rw [q_pR_s e_q]
  intro H locs ls cells slots hP hS hl hz
  have hro : ((q.2.map (q_tv (r_ad h0))).map fun v => v.category).sum ≤ 8 := by
    rw [q_cats]
    exact Nat.le_of_ble_eq_true hb
  have h40 := cx.2.2.2.2.2.2.2.2.2.2.2.1
  exact W.objInit cx.1 cx.2.1 cx.2.2.2.1 (cx.2.2.2.2.1 _ (q_wm_in ho.1.1.2)) (cx.2.2.2.2.1 _ (q_wm_in ho.1.2)) (cx.2.2.2.2.1 _ (q_wm_in ho.2)) rfl (by rw [cx.2.2.1]; exact hl.1) rfl (q_dd ho.1.1.1) cx.2.2.2.2.2.2.2.2.2.2.1 (by show 2 * 0 + ((q.2.map (q_tv (r_ad h0))).map fun v => v.category).sum + 12 ≤ R.locals; omega) (hg _ _ _ _ h H locs ls cells slots hP hS hl hz)
theorem y_91 (cx : r_Cx mt p s m meth c args k D cy h0 b0 z0 R mx) (hg : ∀ pc L st σ, g pc L st σ = some r → r_W mt p l e R s m args below meth c Q D cy h0 b0 z0 k mx pc L st σ) (ho : r_okB mt k pc (91, ox, oa, ob, ol) = true) (h : r_stp mx g cal pc (91, ox, oa, ob, ol) L st σ = some r) : r_W mt p l e R s m args below meth c Q D cy h0 b0 z0 k mx pc L st σ := by
  replace ho : (q_dc (mt k).2.1 pc (.invokestatic oa) 3 && q_wm (.methodLink (mt k).1.cls oa Lib.Math.min.name) && q_wm (.static Lib.Math.min.name) && q_wm (.initialized "java/lang/Math") && q_wm (.code Lib.Math.min.name Lib.Math.min.code 2 (some .int))) = true := ho
  simp only [Bool.and_eq_true] at ho
  obtain ⟨⟨⟨⟨o1, o2⟩, o3⟩, o4⟩, o5⟩ := ho
  replace h : ((q_pI st).bind fun y => (q_pI y.2).bind fun x => bif q_rm x.2 then g (pc + 3) L (.inl (if y.1 < x.1 then y.1 else x.1) :: x.2) σ else none) = some r := h
  obtain ⟨y, e_y, h⟩ := Option.bind_eq_some_iff.mp h
  obtain ⟨x, e_x, h⟩ := Option.bind_eq_some_iff.mp h
  obtain ⟨hb, h⟩ := q_bf h
  rw [q_pI_s e_y, q_pI_s e_x]
  intro H locs ls cells slots hP hS hl hz
  have hro : ((x.2.map (q_tv (r_ad h0))).map fun v => v.category).sum ≤ 8 := by
    rw [q_cats]
    exact Nat.le_of_ble_eq_true hb
  have h40 := cx.2.2.2.2.2.2.2.2.2.2.2.1
  have hcc : cells ≤ R.cells := by have := cx.2.2.2.2.2.2.2.2.2.2.2.2.1; omega
  have hss : slots ≤ R.slots := by have := cx.2.2.2.2.2.2.2.2.2.2.2.2.2.1; omega
  exact va_mmin cx.1 cx.2.1 (cx.2.2.1.trans hl.1.symm) cx.2.2.2.1 (cx.2.2.2.2.1 _ (q_wm_in o2)) (cx.2.2.2.2.1 _ (q_wm_in o3)) (cx.2.2.2.2.1 _ (q_wm_in o4)) (cx.2.2.2.2.1 _ (q_wm_in o5)) cx.2.2.2.2.2.2.2.2.2.2.1 (by omega) hcc hss (q_dd o1) (hg _ _ _ _ h H locs ls cells slots hP hS hl hz)
theorem y_92 (cx : r_Cx mt p s m meth c args k D cy h0 b0 z0 R mx) (hg : ∀ pc L st σ, g pc L st σ = some r → r_W mt p l e R s m args below meth c Q D cy h0 b0 z0 k mx pc L st σ) (ho : r_okB mt k pc (92, ox, oa, ob, ol) = true) (h : r_stp mx g cal pc (92, ox, oa, ob, ol) L st σ = some r) : r_W mt p l e R s m args below meth c Q D cy h0 b0 z0 k mx pc L st σ := by
  replace ho : (q_dc (mt k).2.1 pc (.invokestatic oa) 3 && q_wm (.methodLink (mt k).1.cls oa Lib.Math.max.name) && q_wm (.static Lib.Math.max.name) && q_wm (.initialized "java/lang/Math") && q_wm (.code Lib.Math.max.name Lib.Math.max.code 2 (some .int))) = true := ho
  simp only [Bool.and_eq_true] at ho
  obtain ⟨⟨⟨⟨o1, o2⟩, o3⟩, o4⟩, o5⟩ := ho
  replace h : ((q_pI st).bind fun y => (q_pI y.2).bind fun x => bif q_rm x.2 then g (pc + 3) L (.inl (if x.1 < y.1 then y.1 else x.1) :: x.2) σ else none) = some r := h
  obtain ⟨y, e_y, h⟩ := Option.bind_eq_some_iff.mp h
  obtain ⟨x, e_x, h⟩ := Option.bind_eq_some_iff.mp h
  obtain ⟨hb, h⟩ := q_bf h
  rw [q_pI_s e_y, q_pI_s e_x]
  intro H locs ls cells slots hP hS hl hz
  have hro : ((x.2.map (q_tv (r_ad h0))).map fun v => v.category).sum ≤ 8 := by
    rw [q_cats]
    exact Nat.le_of_ble_eq_true hb
  have h40 := cx.2.2.2.2.2.2.2.2.2.2.2.1
  have hcc : cells ≤ R.cells := by have := cx.2.2.2.2.2.2.2.2.2.2.2.2.1; omega
  have hss : slots ≤ R.slots := by have := cx.2.2.2.2.2.2.2.2.2.2.2.2.2.1; omega
  exact va_mmax cx.1 cx.2.1 (cx.2.2.1.trans hl.1.symm) cx.2.2.2.1 (cx.2.2.2.2.1 _ (q_wm_in o2)) (cx.2.2.2.2.1 _ (q_wm_in o3)) (cx.2.2.2.2.1 _ (q_wm_in o4)) (cx.2.2.2.2.1 _ (q_wm_in o5)) cx.2.2.2.2.2.2.2.2.2.2.1 (by omega) hcc hss (q_dd o1) (hg _ _ _ _ h H locs ls cells slots hP hS hl hz)
end RSN
def r_Q (D : va_G) (cy : Nat → ClassId) (h0 : Nat) (σ : CL) : Array Value → State → Outcome → State → Prop := fun _ st o t => o = .returned none ∧ va_P D vcl (r_ws cy h0 0 σ) t.heap ∧ va_F (r_A h0) st t
def r_CT (l : Launch) (mt : Nat → MRow) (rm : Room) (D : va_G) (cy : Nat → ClassId) (h0 mc ms k : Nat) (vs : List PV) (σ σ1 : CL) : Prop :=
  Met l (mt k).1 (r_code mt k :: gt) rm (va_Pc (vs.map (q_tv (r_ad h0))) (fun U => va_P D vcl (r_ws cy h0 0 σ) U.heap ∧ U.heap.size = h0 + σ.length ∧ va_K D vcl (q_ty cy) U ∧ r_Nw U)) (r_Q D cy h0 σ1) mc ms (r_A h0)
theorem r_bl {D : va_G} {cy : Nat → ClassId} {h0 : Nat} {σ : CL} {vs : List Value} : FrameBlind (va_Pc vs (fun U => va_P D vcl (r_ws cy h0 0 σ) U.heap ∧ U.heap.size = h0 + σ.length ∧ va_K D vcl (q_ty cy) U ∧ r_Nw U)) := fun a U g mk z => ⟨z.1, z.2.1, z.2.2.1, va_K.moved (u := U) (U := U.calling g mk a) (Vm.Alike.refl U.vm) z.2.2.2.1, r_Nw.same (s := U) (U := U.calling g mk a) rfl z.2.2.2.2⟩
section RSC
variable {mt : Nat → MRow} {p : Program} {l : Launch} {e : Env} {R : Room} {s : State} {m : MethodId} {args : Array Value} {below : List Frame} {meth : Method} {c : Code} {Q : State → Prop} {D : va_G} {cy : Nat → ClassId} {h0 b0 z0 k pc : Nat} {mx : Nat × Nat} {g : Nat → PL → List PV → CL → Option CL} {cal : Nat → List PV → CL → Option CL} {r : CL} {L : PL} {st : List PV} {σ : CL} {ox : Int} {oa ob : Nat} {ol : List Nat}
theorem r_go {H : Heap} {locs : List Loc} {ls : Array Slot} {rest st0 : List Value} {σ1 : CL} {a : Array Value} {cells slots mc ms : Nat} (hv : va_Run p l e R s m args below meth c H locs cells slots mc ms (F0 m pc ls st0) rest (r_Q D cy h0 σ1 a) (r_A h0)) (hS : va_S (r_A h0) s.heap H locs)
    (kk : ∀ (H1 : Heap) (locs1 : List Loc), va_P D vcl (r_ws cy h0 0 σ1) H1 → va_S (r_A h0) s.heap H1 locs1 → W p l e R s m args below meth c H1 locs1 (cells + mc) (slots + ms) Q (F0 m (pc + 3) ls rest)) : W p l e R s m args below meth c H locs cells slots Q (F0 m pc ls st0) := by
  intro T hT X
  obtain ⟨v', st₀, t, T', L', h0', X', hL, e1, e2, ⟨hv', hw, hz, hk⟩, st'⟩ := hv T hT X
  cases hv'
  rw [h0'] at hz hk
  obtain ⟨t2, a1, b1⟩ := kk T'.heap (locs ++ L') (by rw [e1]; exact hw) ⟨Nat.le_trans hS.1 (by rw [e1]; exact hz), fun q h1 h2 => by
      rw [e1, hk q (Nat.lt_of_lt_of_le h1 hS.1) h2]
      exact hS.2.1 q h1 h2, fun q hq => by
      rcases List.mem_append.mp hq with h | h
      · exact hS.2.2 q h
      · exact hL q h⟩ T' rfl X'
  exact ⟨t2, st' t2 a1, b1⟩
theorem r_size {H : Heap} {cells : Nat} (cx : r_Cx mt p s m meth c args k D cy h0 b0 z0 R mx) (hP : va_P D vcl (r_ws cy h0 0 σ) H) (hz : cells + b0 = σ.length) (hn : 0 < σ.length) (hsz : H.size ≤ s.heap.size + cells) : H.size = h0 + σ.length := by
  have h1 := cx.2.2.2.2.2.2.2.2.2.1
  have hl : σ.length - 1 < σ.length := by omega
  have h2 := (hP (σ.length - 1) _ (by rw [r_ws_at, List.getElem?_eq_getElem hl]; rfl)).lt
  replace h2 : h0 + (0 + (σ.length - 1)) < H.size := h2
  omega
theorem y_89 (cx : r_Cx mt p s m meth c args k D cy h0 b0 z0 R mx) (hg : ∀ pc L st σ, g pc L st σ = some r → r_W mt p l e R s m args below meth c Q D cy h0 b0 z0 k mx pc L st σ) {rm : Nat → Room} (hrm : ∀ k1, (rm k1).cells = (r_cost k1).1 ∧ (rm k1).slots = (r_cost k1).2 ∧ (rm k1).frames + 1 ≤ R.frames ∧ 49 + (rm k1).locals ≤ R.locals) (hcl : ∀ k1 vs τ τ1, cal k1 vs τ = some τ1 → (vs.map q_cat).sum ≤ (mt k1).2.2.1 → (0 < τ.length ∧ τ1.length = τ.length + (r_cost k1).1 ∧ r_szs τ1 = r_szs τ + (r_cost k1).2 ∧ τ1.length ≤ mx.1 ∧ r_szs τ1 ≤ mx.2) ∧ r_CT l mt (rm k1) D cy h0 (r_cost k1).1 (r_cost k1).2 k1 vs τ τ1) (ho : r_okB mt k pc (89, ox, oa, ob, ol) = true) (h : r_stp mx g cal pc (89, ox, oa, ob, ol) L st σ = some r) : r_W mt p l e R s m args below meth c Q D cy h0 b0 z0 k mx pc L st σ := by
  replace ho : (q_dc (mt k).2.1 pc (.invokespecial oa) 3 && q_wm (.methodLink (mt k).1.cls oa (mt ob).1) && q_wm (.instanceMethod (mt ob).1) && q_wm (.initialized (mt ob).1.cls) && q_wm (r_code mt ob) && q_ny (mt ob).1 (mt ob).1.cls (ol.getD 0 0) && Nat.ble (mt ob).2.2.1 30 && decide ((mt ob).1.name = "<init>") && decide ((mt ob).2.2.2 = none) && Nat.beq (mt ob).2.2.1 (r_mt ob).2.2.1) = true := ho
  simp only [Bool.and_eq_true] at ho
  obtain ⟨⟨⟨⟨⟨⟨⟨⟨⟨o1, o2⟩, o3⟩, o5⟩, o6⟩, o7⟩, o8⟩, o9⟩, o11⟩, o10⟩ := ho
  replace h : ((q_pop (ol.getD 0 0) st).bind fun a => (q_pR a.2).bind fun q => bif q_rm q.2 && Nat.ble ((a.1.map q_cat).sum + 1) (r_mt ob).2.2.1 then (cal ob (.inr (.inr (some q.1)) :: a.1) σ).bind fun σ1 => g (pc + 3) L q.2 σ1 else none) = some r := h
  obtain ⟨a, e_a, h⟩ := Option.bind_eq_some_iff.mp h
  obtain ⟨q, e_q, h⟩ := Option.bind_eq_some_iff.mp h
  obtain ⟨hb, h⟩ := q_bf h
  simp only [Bool.and_eq_true] at hb
  obtain ⟨hb1, hb2⟩ := hb
  have hm := Nat.eq_of_beq_eq_true o10
  have hw9 := Nat.le_of_ble_eq_true hb2
  obtain ⟨σ1, e_z, h⟩ := Option.bind_eq_some_iff.mp h
  obtain ⟨x1, x2⟩ := q_pop_s _ e_a
  rw [q_pR_s e_q] at x1
  have hny := of_decide_eq_true o7
  have h8 := Nat.le_of_ble_eq_true o8
  obtain ⟨hcst, hM⟩ := hcl _ _ _ _ e_z (by
    show 1 + (a.1.map q_cat).sum ≤ _
    omega)
  obtain ⟨r1, r2, r3, r4⟩ := hrm ob
  intro H locs ls cells slots hP hS hl hz
  have hcc : cells + (r_cost ob).1 ≤ R.cells := by have := cx.2.2.2.2.2.2.2.2.2.2.2.2.1; omega
  have hss : slots + (r_cost ob).2 ≤ R.slots := by have := cx.2.2.2.2.2.2.2.2.2.2.2.2.2.1; omega
  have hro : ((q.2.map (q_tv (r_ad h0))).map fun v => v.category).sum ≤ 8 := by
    rw [q_cats]
    exact Nat.le_of_ble_eq_true hb1
  intro T hT X
  have hpos := hcst.1
  have hsize := r_size cx hP hz.1 hpos (by have := X.heapSize; rw [hT] at this; exact this)
  have hW := va_runI (As := a.1.map (q_tv (r_ad h0))) (rest := q.2.map (q_tv (r_ad h0))) (b := h0 + q.1.2) (g := F0 m pc ls (st.map (q_tv (r_ad h0)))) (Ts := gt) (locs := locs) (cells := cells) (slots := slots) (below := below) (e := e) (meth := meth) (H := H) ⟨cx.1, cx.2.1, cx.2.2.1, cx.2.2.2.1, cx.2.2.2.2.1⟩ hM ⟨callB_of (bytes := (mt ob).2.1) (maxL := (mt ob).2.2.1) (index := oa) (ol.getD 0 0) cx.2.2.2.2.1 (fun w hw => ⟨by rcases List.mem_cons.mp hw with rfl | hw; exact q_wm_in o6; exact hw, good_of_word (gt_good w (by rcases List.mem_cons.mp hw with rfl | hw; exact q_wm_in o6; exact hw))⟩) (by rw [← of_decide_eq_true o11]; rfl) r1 r2 (cx.2.2.2.2.1 _ (q_wm_in o5)) (cx.2.2.2.2.1 _ (q_wm_in o2)) hny.2 ⟨r3, by omega⟩, of_decide_eq_true o9, cx.2.2.2.2.1 _ (q_wm_in o3)⟩ ⟨r_bl, fun U hU hw => ⟨rfl, by rw [hU]; exact hP, by rw [hU]; exact hsize, va_K.moved hw.alike cx.2.2.2.2.2.1, r_Nw.warm hw cx.2.2.2.2.2.2.2.2.2.2.2.2.2.2⟩⟩ rfl (by rw [List.length_map]; exact x2) hl.1 (by show st.map (q_tv (r_ad h0)) = _; rw [x1, List.map_append, List.map_reverse]; rfl) (lv_room hro) (q_dd o1) ⟨hcc, hss⟩
  exact r_go hW hS (fun H1 locs1 hP1 hS1 => hg _ _ _ _ h H1 locs1 ls (cells + (r_cost ob).1) (slots + (r_cost ob).2) hP1 hS1 hl ⟨by omega, by omega, hcst.2.2.2.1, hcst.2.2.2.2⟩) T hT X
theorem y_90 (cx : r_Cx mt p s m meth c args k D cy h0 b0 z0 R mx) (hg : ∀ pc L st σ, g pc L st σ = some r → r_W mt p l e R s m args below meth c Q D cy h0 b0 z0 k mx pc L st σ) {rm : Nat → Room} (hrm : ∀ k1, (rm k1).cells = (r_cost k1).1 ∧ (rm k1).slots = (r_cost k1).2 ∧ (rm k1).frames + 1 ≤ R.frames ∧ 49 + (rm k1).locals ≤ R.locals) (hcl : ∀ k1 vs τ τ1, cal k1 vs τ = some τ1 → (vs.map q_cat).sum ≤ (mt k1).2.2.1 → (0 < τ.length ∧ τ1.length = τ.length + (r_cost k1).1 ∧ r_szs τ1 = r_szs τ + (r_cost k1).2 ∧ τ1.length ≤ mx.1 ∧ r_szs τ1 ≤ mx.2) ∧ r_CT l mt (rm k1) D cy h0 (r_cost k1).1 (r_cost k1).2 k1 vs τ τ1) (ho : r_okB mt k pc (90, ox, oa, ob, ol) = true) (h : r_stp mx g cal pc (90, ox, oa, ob, ol) L st σ = some r) : r_W mt p l e R s m args below meth c Q D cy h0 b0 z0 k mx pc L st σ := by
  replace ho : (q_dc (mt k).2.1 pc (.invokespecial oa) 3 && decide (((mt k).1.cls, oa, (mt ob).1, "JobBoard") ∈ r_nests) && q_wm (.instanceMethod (mt ob).1) && q_wm (.initialized (mt ob).1.cls) && q_wm (r_code mt ob) && q_ny (mt ob).1 (mt ob).1.cls (ol.getD 0 0) && Nat.ble (mt ob).2.2.1 30 && decide ((mt ob).1.name = "<init>") && decide ((mt ob).2.2.2 = none) && Nat.beq (mt ob).2.2.1 (r_mt ob).2.2.1) = true := ho
  simp only [Bool.and_eq_true] at ho
  obtain ⟨⟨⟨⟨⟨⟨⟨⟨⟨o1, o2⟩, o3⟩, o5⟩, o6⟩, o7⟩, o8⟩, o9⟩, o11⟩, o10⟩ := ho
  replace h : ((q_pop (ol.getD 0 0) st).bind fun a => (q_pR a.2).bind fun q => bif q_rm q.2 && Nat.ble ((a.1.map q_cat).sum + 1) (r_mt ob).2.2.1 then (cal ob (.inr (.inr (some q.1)) :: a.1) σ).bind fun σ1 => g (pc + 3) L q.2 σ1 else none) = some r := h
  obtain ⟨a, e_a, h⟩ := Option.bind_eq_some_iff.mp h
  obtain ⟨q, e_q, h⟩ := Option.bind_eq_some_iff.mp h
  obtain ⟨hb, h⟩ := q_bf h
  simp only [Bool.and_eq_true] at hb
  obtain ⟨hb1, hb2⟩ := hb
  have hm := Nat.eq_of_beq_eq_true o10
  have hw9 := Nat.le_of_ble_eq_true hb2
  obtain ⟨σ1, e_z, h⟩ := Option.bind_eq_some_iff.mp h
  obtain ⟨x1, x2⟩ := q_pop_s _ e_a
  rw [q_pR_s e_q] at x1
  have hny := of_decide_eq_true o7
  have h8 := Nat.le_of_ble_eq_true o8
  obtain ⟨hcst, hM⟩ := hcl _ _ _ _ e_z (by
    show 1 + (a.1.map q_cat).sum ≤ _
    omega)
  obtain ⟨r1, r2, r3, r4⟩ := hrm ob
  intro H locs ls cells slots hP hS hl hz
  have hcc : cells + (r_cost ob).1 ≤ R.cells := by have := cx.2.2.2.2.2.2.2.2.2.2.2.2.1; omega
  have hss : slots + (r_cost ob).2 ≤ R.slots := by have := cx.2.2.2.2.2.2.2.2.2.2.2.2.2.1; omega
  have hro : ((q.2.map (q_tv (r_ad h0))).map fun v => v.category).sum ≤ 8 := by
    rw [q_cats]
    exact Nat.le_of_ble_eq_true hb1
  intro T hT X
  have hpos := hcst.1
  have hsize := r_size cx hP hz.1 hpos (by have := X.heapSize; rw [hT] at this; exact this)
  have hW := va_runIN (host := "JobBoard") (As := a.1.map (q_tv (r_ad h0))) (rest := q.2.map (q_tv (r_ad h0))) (b := h0 + q.1.2) (g := F0 m pc ls (st.map (q_tv (r_ad h0)))) (Ts := gt) (locs := locs) (cells := cells) (slots := slots) (below := below) (e := e) (meth := meth) (H := H) ⟨cx.1, cx.2.1, cx.2.2.1, cx.2.2.2.1, cx.2.2.2.2.1⟩ hM ⟨va_cnB (bytes := (mt ob).2.1) (maxL := (mt ob).2.2.1) (index := oa) (ol.getD 0 0) cx.2.2.2.2.1 (fun w hw => ⟨by rcases List.mem_cons.mp hw with rfl | hw; exact q_wm_in o6; exact hw, good_of_word (gt_good w (by rcases List.mem_cons.mp hw with rfl | hw; exact q_wm_in o6; exact hw))⟩) (by rw [← of_decide_eq_true o11]; rfl) r1 r2 (cx.2.2.2.2.2.2.2.2.2.2.2.2.2.2.1 _ (of_decide_eq_true o2)) (cx.2.2.2.2.1 _ (q_wm_in o5)) hny.2 ⟨r3, by omega⟩, of_decide_eq_true o9, cx.2.2.2.2.1 _ (q_wm_in o3)⟩ ⟨r_bl, fun U hU hw => ⟨rfl, by rw [hU]; exact hP, by rw [hU]; exact hsize, va_K.moved hw.alike cx.2.2.2.2.2.1, r_Nw.warm hw cx.2.2.2.2.2.2.2.2.2.2.2.2.2.2⟩⟩ rfl (by rw [List.length_map]; exact x2) hl.1 (by show st.map (q_tv (r_ad h0)) = _; rw [x1, List.map_append, List.map_reverse]; rfl) (lv_room hro) (q_dd o1) ⟨hcc, hss⟩
  exact r_go hW hS (fun H1 locs1 hP1 hS1 => hg _ _ _ _ h H1 locs1 ls (cells + (r_cost ob).1) (slots + (r_cost ob).2) hP1 hS1 hl ⟨by omega, by omega, hcst.2.2.2.1, hcst.2.2.2.2⟩) T hT X
theorem y_67 (cx : r_Cx mt p s m meth c args k D cy h0 b0 z0 R mx) (hg : ∀ pc L st σ, g pc L st σ = some r → r_W mt p l e R s m args below meth c Q D cy h0 b0 z0 k mx pc L st σ) {rm : Nat → Room} (hrm : ∀ k1, (rm k1).cells = (r_cost k1).1 ∧ (rm k1).slots = (r_cost k1).2 ∧ (rm k1).frames + 1 ≤ R.frames ∧ 49 + (rm k1).locals ≤ R.locals) (hcl : ∀ k1 vs τ τ1, cal k1 vs τ = some τ1 → (vs.map q_cat).sum ≤ (mt k1).2.2.1 → (0 < τ.length ∧ τ1.length = τ.length + (r_cost k1).1 ∧ r_szs τ1 = r_szs τ + (r_cost k1).2 ∧ τ1.length ≤ mx.1 ∧ r_szs τ1 ≤ mx.2) ∧ r_CT l mt (rm k1) D cy h0 (r_cost k1).1 (r_cost k1).2 k1 vs τ τ1) (ho : r_okB mt k pc (67, ox, oa, ob, ol) = true) (h : r_stp mx g cal pc (67, ox, oa, ob, ol) L st σ = some r) : r_W mt p l e R s m args below meth c Q D cy h0 b0 z0 k mx pc L st σ := by
  replace ho : (q_dc (mt k).2.1 pc (.invokevirtual oa) 3 && q_wm (.methodLink (mt k).1.cls oa (mt ob).1) && q_wm (.instanceMethod (mt ob).1) && q_wm (.selects (q_cl 9).1 (mt ob).1 (mt ob).1) && q_wm (.initialized (q_cl 9).1) && q_wm (r_code mt ob) && q_ny (mt ob).1 (q_cl 9).1 (ol.getD 0 0) && Nat.ble (mt ob).2.2.1 30 && Nat.beq (mt ob).2.2.1 3) = true := ho
  simp only [Bool.and_eq_true] at ho
  obtain ⟨⟨⟨⟨⟨⟨⟨⟨o1, o2⟩, o3⟩, o4⟩, o5⟩, o6⟩, o7⟩, o8⟩, o10⟩ := ho
  replace h : ((q_pop (ol.getD 0 0) st).bind fun a => (q_pR a.2).bind fun q => (σ[q.1.2]?).bind fun e => (r_obj e).bind fun w => bif Nat.beq w.1 9 && q_rm q.2 && Nat.ble ((a.1.map q_cat).sum + 1) 3 then (cal ob (.inr (.inr (some q.1)) :: a.1) σ).bind fun σ1 => g (pc + 3) L q.2 σ1 else none) = some r := h
  obtain ⟨a, e_a, h⟩ := Option.bind_eq_some_iff.mp h
  obtain ⟨q, e_q, h⟩ := Option.bind_eq_some_iff.mp h
  obtain ⟨e1, e_e, h⟩ := Option.bind_eq_some_iff.mp h
  obtain ⟨w, e_w, h⟩ := Option.bind_eq_some_iff.mp h
  obtain ⟨hb, h⟩ := q_bf h
  simp only [Bool.and_eq_true] at hb
  obtain ⟨⟨hb0, hb1⟩, hb2⟩ := hb
  rw [r_obj_s e_w] at e_e
  have hw1 := Nat.eq_of_beq_eq_true hb0
  have hro0 := r_ws_o (cy := cy) (h0 := h0) e_e
  rw [hw1] at hro0
  have hm := Nat.eq_of_beq_eq_true o10
  have hw9 := Nat.le_of_ble_eq_true hb2
  obtain ⟨σ1, e_z, h⟩ := Option.bind_eq_some_iff.mp h
  obtain ⟨x1, x2⟩ := q_pop_s _ e_a
  rw [q_pR_s e_q] at x1
  have hny := of_decide_eq_true o7
  have h8 := Nat.le_of_ble_eq_true o8
  obtain ⟨hcst, hM⟩ := hcl _ _ _ _ e_z (by
    show 1 + (a.1.map q_cat).sum ≤ _
    omega)
  obtain ⟨r1, r2, r3, r4⟩ := hrm ob
  intro H locs ls cells slots hP hS hl hz
  have hcc : cells + (r_cost ob).1 ≤ R.cells := by have := cx.2.2.2.2.2.2.2.2.2.2.2.2.1; omega
  have hss : slots + (r_cost ob).2 ≤ R.slots := by have := cx.2.2.2.2.2.2.2.2.2.2.2.2.2.1; omega
  have hro : ((q.2.map (q_tv (r_ad h0))).map fun v => v.category).sum ≤ 8 := by
    rw [q_cats]
    exact Nat.le_of_ble_eq_true hb1
  intro T hT X
  have hpos := hcst.1
  have hsize := r_size cx hP hz.1 hpos (by have := X.heapSize; rw [hT] at this; exact this)
  have hW := va_runV (As := a.1.map (q_tv (r_ad h0))) (rest := q.2.map (q_tv (r_ad h0))) (b := h0 + q.1.2) (g := F0 m pc ls (st.map (q_tv (r_ad h0)))) (Ts := gt) (locs := locs) (cells := cells) (slots := slots) (below := below) (e := e) (meth := meth) (H := H) ⟨cx.1, cx.2.1, cx.2.2.1, cx.2.2.2.1, cx.2.2.2.2.1⟩ hM (cwV (C := (q_cl 9).1) (index := oa) (ol.getD 0 0) cx.2.2.2.2.1 (gi_V (q_wm_in o2) (q_wm_in o3) (q_wm_in o4) (q_wm_in o5) (q_wm_in o6)) rfl r1 r2 hny ⟨r3, by omega⟩) ⟨r_bl, va_recv cx.2.2.2.2.2.1 hP (r_clN 9 (by decide)) hro0, fun U hU hw => ⟨rfl, by rw [hU]; exact hP, by rw [hU]; exact hsize, va_K.moved hw.alike cx.2.2.2.2.2.1, r_Nw.warm hw cx.2.2.2.2.2.2.2.2.2.2.2.2.2.2⟩⟩ rfl (by rw [List.length_map]; exact x2) hl.1 (by show st.map (q_tv (r_ad h0)) = _; rw [x1, List.map_append, List.map_reverse]; rfl) (lv_room hro) (q_dd o1) ⟨hcc, hss⟩
  exact r_go hW hS (fun H1 locs1 hP1 hS1 => hg _ _ _ _ h H1 locs1 ls (cells + (r_cost ob).1) (slots + (r_cost ob).2) hP1 hS1 hl ⟨by omega, by omega, hcst.2.2.2.1, hcst.2.2.2.2⟩) T hT X
end RSC
