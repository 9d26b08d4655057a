/-! Each step of the interpreter is a step of the machine: fields, rows, switches. Ours -/
theorem q_bf {α : Type} {b : Bool} {x : Option α} {r : α} (h : (bif b then x else none) = some r) : b = true ∧ x = some r := by
  cases b with
  | true => exact ⟨rfl, h⟩
  | false => cases h
theorem q_in_p {i : Int32} {n : Nat} (h : q_in i n = true) : vp_in i n := of_decide_eq_true (p := ¬ (i < 0 ∨ n ≤ i.toNatClampNeg)) h
theorem q_b1 {v : Int32} (h : v &&& 1 = v) : narrow .boolean (.int v) = .int v ∧ fits .boolean (.int v) = true := by
  have h2 : v = 0 ∨ v = 1 := by
    obtain ⟨j, hj, e⟩ := pk_andE v (m := 1) 1 (by decide)
    rw [h] at e
    rcases (show j = 0 ∨ j = 1 by omega) with rfl | rfl
    · exact Or.inl e
    · exact Or.inr e
  rcases h2 with e | e <;> rw [e] <;> exact ⟨rfl, rfl⟩
theorem cj_sA' {cy : Nat → ClassId} {ad : Nat → Nat → Nat} {n : Nat} {σ : J} {k i t : Nat} {g : Nat → Int32} {w : Nat × Nat × Nat × Nat} (h : q_ka k = some w) (hw : w.1 = t) (ht : t = 0 ∨ t = 2) : hup (cj cy ad n σ) k i (.inl (cy t, q_nn n w.2.2, .inl g)) = cj cy ad n (q_sA σ k i g) := by
  subst hw
  exact cj_sA h ht
theorem cj_sL' {cy : Nat → ClassId} {ad : Nat → Nat → Nat} {n : Nat} {σ : J} {k i t : Nat} {g : Nat → Int64} {w : Nat × Nat × Nat × Nat} (h : q_ka k = some w) (hw : w.1 = t) (ht : t = 1) : hup (cj cy ad n σ) k i (.inl (cy t, q_nn n w.2.2, .inr (.inl g))) = cj cy ad n (q_sL σ k i g) := by
  subst hw
  exact cj_sL h ht
def q_kaB (k : Nat) : Bool := match q_ka k with
  | none => true
  | some w => Nat.blt w.1 7 && (Nat.blt w.1 3 || (match q_ko w.2.1 with
    | none => false
    | some v => decide (q_tn.getD w.1 .int = .object (q_cl v.1).1)))
theorem q_kaB_all : (List.range q_kat.length).all q_kaB = true := by decide +kernel
theorem q_kaB_at {k : Nat} {w : Nat × Nat × Nat × Nat} (h : q_ka k = some w) : w.1 < 7 ∧ (2 < w.1 → ∃ v, q_ko w.2.1 = some v ∧ q_tn.getD w.1 .int = .object (q_cl v.1).1) := by
  have hk : k < q_kat.length := by
    apply Nat.lt_of_not_le
    intro hk
    unfold q_ka at h
    rw [List.getD_eq_getElem?_getD, List.getElem?_eq_none hk] at h
    cases h
  have h1 := List.all_eq_true.mp q_kaB_all k (List.mem_range.mpr hk)
  unfold q_kaB at h1
  rw [h] at h1
  simp only [Bool.and_eq_true, Bool.or_eq_true] at h1
  refine ⟨Nat.blt_eq.mp h1.1, fun h2 => ?_⟩
  rcases h1.2 with h3 | h3
  · have := Nat.blt_eq.mp h3
    omega
  · cases hv : q_ko w.2.1 with
    | none => rw [hv] at h3; cases h3
    | some v =>
      rw [hv] at h3
      exact ⟨v, rfl, of_decide_eq_true h3⟩
theorem q_ty_at (cy : Nat → ClassId) {t : Nat} (h : t < 7) : (q_ty cy)[t]? = some (cy t, q_tn.getD t .int) := by
  match t, h with
  | 0, _ => rfl
  | 1, _ => rfl
  | 2, _ => rfl
  | 3, _ => rfl
  | 4, _ => rfl
  | 5, _ => rfl
  | 6, _ => rfl
theorem q_sw_in {g : Nat → Option Res} {x : Int32} {t u : Nat} (ts : List Nat) : ∀ (lo j : Nat), x = Int32.ofNat (lo + j) → ts[j]? = some u → lo + ts.length < 2 ^ 31 → q_sw g x lo ts t = g u := by
  induction ts with
  | nil => intro lo j _ h; cases h
  | cons w r ih =>
    intro lo j hx hj hs
    cases j with
    | zero =>
      obtain rfl : w = u := Option.some.inj hj
      exact if_pos hx
    | succ j =>
      rw [List.length_cons] at hs
      have hl : j < r.length := Nat.lt_of_succ_lt_succ (List.getElem?_eq_some_iff.mp hj).1
      show (if x = Int32.ofNat lo then g w else _) = _
      rw [if_neg]
      · exact ih (lo + 1) j (by rw [hx]; congr 1; omega) hj (by omega)
      · intro e
        have h2 : nI (lo + (j + 1)) = nI lo := hx.symm.trans e
        have := (nI_eq (a := lo + (j + 1)) (b := lo) (by omega) (by omega)).mp h2
        omega
theorem q_sw_out {g : Nat → Option Res} {x : Int32} {t : Nat} (ts : List Nat) : ∀ (lo : Nat), (∀ j, j < ts.length → x ≠ Int32.ofNat (lo + j)) → q_sw g x lo ts t = g t := by
  induction ts with
  | nil => intro lo _; rfl
  | cons w r ih =>
    intro lo h
    refine (if_neg (h 0 (by simp))).trans ?_
    exact ih (lo + 1) fun j hj => by
      have := h (j + 1) (by simp; omega)
      rwa [show lo + (j + 1) = lo + 1 + j by omega] at this
section SNH
variable {mt : Nat → MRow} {p : Program} {l : Launch} {e : Env} {R : Room} {s : State} {m : MethodId} {args : Array Value} {below : List Frame} {meth : Method} {c : Code} {Q : State → Prop} {D : va_G} {cy : Nat → ClassId} {ad : Nat → Nat → Nat} {n k cells slots pc : Nat} {A : Nat → Prop} {g : Nat → PL → List PV → J → Option Res} {cal : Nat → List PV → J → Option Res} {r : Res} {L : PL} {st : List PV} {σ : J} {ox : Int} {oa ob : Nat} {ol : List Nat}
theorem z_55 (cx : q_Cx mt p s m meth c args k D cy n ad A R cells slots) (hg : ∀ pc L st σ, g pc L st σ = some r → q_W mt p l e R s m args below meth c Q D cy ad n A k cells slots pc L st σ) (ho : q_okB mt k pc (55, ox, oa, ob, ol) = true) (h : q_stp n g cal pc (55, ox, oa, ob, ol) L st σ = some r) : q_W mt p l e R s m args below meth c Q D cy ad n A k cells slots pc L st σ := by
  replace ho : (q_dc (mt k).2.1 pc (.tableswitch ox (oa : Int) ((oa + ol.tail.length : Int) - 1) ((ol.tail.map fun (t : Nat) => (t : Int) - (pc : Int)).toArray)) (ol.getD 0 0) && q_tg pc ox ob && Nat.blt (oa + ol.tail.length) 1000) = true := ho
  simp only [Bool.and_eq_true] at ho
  have hsz := Nat.blt_eq.mp ho.2
  replace h : ((q_pI st).bind fun x => q_sw (fun t => g t L x.2 σ) x.1 oa ol.tail ob) = some r := h
  obtain ⟨x, e_x, h⟩ := Option.bind_eq_some_iff.mp h
  rw [q_pI_s e_x]
  intro H locs ls hP hS hl hL hst
  by_cases hout : x.1.toInt < (oa : Int) ∨ ((oa + ol.tail.length : Int) - 1) < x.1.toInt
  · rw [q_sw_out] at h
    · exact lv_tableOut cx.1 cx.2.1 (q_dd ho.1.1) hout (of_decide_eq_true ho.1.2) (hg _ _ _ _ h H locs ls hP hS hl hL hst.2)
    · intro j hj e
      have e2 : x.1.toInt = ((oa + j : Nat) : Int) := by
        rw [e]
        exact nI_toInt (by omega)
      omega
  · have h1 : ¬ x.1.toInt < (oa : Int) := fun q => hout (Or.inl q)
    have h2 : ¬ ((oa + ol.tail.length : Int) - 1) < x.1.toInt := fun q => hout (Or.inr q)
    have hj : (x.1.toInt - (oa : Int)).toNat < ol.tail.length := by omega
    have hu : ol.tail[(x.1.toInt - (oa : Int)).toNat]? = some (ol.tail[(x.1.toInt - (oa : Int)).toNat]'hj) := List.getElem?_eq_getElem hj
    rw [q_sw_in (u := ol.tail[(x.1.toInt - (oa : Int)).toNat]'hj) ol.tail oa (x.1.toInt - (oa : Int)).toNat _ hu (by omega)] at h
    · refine lv_tableIn (off := ((ol.tail[(x.1.toInt - (oa : Int)).toNat]'hj : Nat) : Int) - (pc : Int)) cx.1 cx.2.1 (q_dd ho.1.1) h1 h2 ?_ ?_ (hg _ _ _ _ h H locs ls hP hS hl hL hst.2)
      · rw [List.getElem?_toArray, List.getElem?_map, hu]
        rfl
      · omega
    · apply Int32.toInt_inj.mp
      rw [show (Int32.ofNat (oa + (x.1.toInt - (oa : Int)).toNat)).toInt = ((oa + (x.1.toInt - (oa : Int)).toNat : Nat) : Int) from nI_toInt (by omega)]
      omega
theorem z_56 (cx : q_Cx mt p s m meth c args k D cy n ad A R cells slots) (hg : ∀ pc L st σ, g pc L st σ = some r → q_W mt p l e R s m args below meth c Q D cy ad n A k cells slots pc L st σ) (ho : q_okB mt k pc (56, ox, oa, ob, ol) = true) (h : q_stp n g cal pc (56, ox, oa, ob, ol) L st σ = some r) : q_W mt p l e R s m args below meth c Q D cy ad n A k cells slots pc L st σ := by
  replace ho : (q_dc (mt k).2.1 pc (.getfield oa) 3 && q_wd (ol.getD 1 0) (.fieldLink (mt k).1.cls oa ((q_cl (ol.getD 0 0)).2.1 ob).1 ((q_cl (ol.getD 0 0)).2.1 ob).2.1 ((q_cl (ol.getD 0 0)).2.1 ob).2.2.1)) = true := ho
  simp only [Bool.and_eq_true] at ho
  replace h : ((q_pR st).bind fun q => (q_ko q.1.1).bind fun w => bif Nat.beq w.1 (ol.getD 0 0) then (w.2[ob]?).bind fun d => g (pc + 3) L (q_fv σ q.1.1 q.1.2 ob d :: q.2) σ else none) = some r := h
  obtain ⟨q, e_q, h⟩ := Option.bind_eq_some_iff.mp h
  obtain ⟨w, e_w, h⟩ := Option.bind_eq_some_iff.mp h
  obtain ⟨hb, h⟩ := q_bf h
  obtain ⟨d, e_d, h⟩ := Option.bind_eq_some_iff.mp h
  rw [← Nat.eq_of_beq_eq_true hb] at ho
  rw [q_pR_s e_q]
  intro H locs ls hP hS hl hL hst
  have hi : (q.1.1, q.1.2) ∈ idj n := q_ok_in hst.1 (q_ko_ne e_w)
  obtain ⟨t, ht0, ht⟩ := wl_at (ad := ad) (cn := cj cy ad n σ) hi
  rw [cj_o e_w] at ht
  have hc := q_kB_at e_w
  have hk : ob < (q_cl w.1).2.2 := by
    rw [← hc.2.1]
    exact (List.getElem?_eq_some_iff.mp e_d).1
  exact va_get (Ts := gt) (v := q_tv ad (q_fv σ q.1.1 q.1.2 ob d)) cx.1 cx.2.1 cx.2.2.2.2.1 (vc_ok w.1 _ (q_cl_at hc.1)).1 cx.2.2.2.1 cx.2.2.2.2.2.1 hP t ht (q_cl_at hc.1) ob hk (cx.2.2.2.2.1 _ (q_wd_in ho.2)) (fun _ h => h) (by rw [q_fs_at, e_d, Nat.zero_add]; rfl) (q_dd ho.1) (hg _ _ _ _ h H locs ls hP hS hl hL ⟨q_fv_ok e_w e_d hi, hst.2⟩)
theorem z_57 (cx : q_Cx mt p s m meth c args k D cy n ad A R cells slots) (hg : ∀ pc L st σ, g pc L st σ = some r → q_W mt p l e R s m args below meth c Q D cy ad n A k cells slots pc L st σ) (ho : q_okB mt k pc (57, ox, oa, ob, ol) = true) (h : q_stp n g cal pc (57, ox, oa, ob, ol) L st σ = some r) : q_W mt p l e R s m args below meth c Q D cy ad n A k cells slots pc L st σ := by
  replace ho : (q_dc (mt k).2.1 pc (.putfield oa) 3 && q_wd (ol.getD 1 0) (.fieldLink (mt k).1.cls oa ((q_cl (ol.getD 0 0)).2.1 ob).1 ((q_cl (ol.getD 0 0)).2.1 ob).2.1 ((q_cl (ol.getD 0 0)).2.1 ob).2.2.1) && !((q_cl (ol.getD 0 0)).2.1 ob).2.2.2) = true := ho
  simp only [Bool.and_eq_true, Bool.not_eq_true'] at ho
  replace h : ((q_pI st).bind fun v => (q_pR v.2).bind fun q => (q_ko q.1.1).bind fun w => bif Nat.beq w.1 (ol.getD 0 0) then (w.2[ob]?).bind fun d => bif Nat.beq d.1 0 then g (pc + 3) L q.2 (q_sI σ q.1.1 ob q.1.2 v.1) else bif Nat.beq d.1 1 then if v.1 &&& 1 = v.1 then g (pc + 3) L q.2 (q_sI σ q.1.1 ob q.1.2 v.1) else none else none else none) = some r := h
  obtain ⟨v, e_v, h⟩ := Option.bind_eq_some_iff.mp h
  obtain ⟨q, e_q, h⟩ := Option.bind_eq_some_iff.mp h
  obtain ⟨w, e_w, h⟩ := Option.bind_eq_some_iff.mp h
  obtain ⟨hb, h⟩ := q_bf h
  obtain ⟨d, e_d, h⟩ := Option.bind_eq_some_iff.mp h
  rw [← Nat.eq_of_beq_eq_true hb] at ho
  rw [q_pI_s e_v, q_pR_s e_q]
  intro H locs ls hP hS hl hL hst
  have hi : (q.1.1, q.1.2) ∈ idj n := q_ok_in hst.2.1 (q_ko_ne e_w)
  obtain ⟨t, ht0, ht⟩ := wl_at (ad := ad) (cn := cj cy ad n σ) hi
  rw [cj_o e_w] at ht
  have hc := q_kB_at e_w
  have hk : ob < (q_cl w.1).2.2 := by
    rw [← hc.2.1]
    exact (List.getElem?_eq_some_iff.mp e_d).1
  obtain ⟨hin, ty0, hty, hnm⟩ := vc_ok w.1 _ (q_cl_at hc.1)
  have key : ∀ ty : FieldType, parseFieldDescriptor ((q_cl w.1).2.1 ob).2.2.1 = some ty → narrow ty (.int v.1) = .int v.1 → fits ty (.int v.1) = true → d.1 < 2 → g (pc + 3) L q.2 (q_sI σ q.1.1 ob q.1.2 v.1) = some r → W p l e R s m args below meth c H locs cells slots Q (F0 m pc ls ((.inl v.1 :: .inr (.inr (some q.1)) :: q.2 : List PV).map (q_tv ad))) := by
    intro ty hd hn hf h2 h
    refine va_put (Ts := gt) (ty := ty) (v := .int v.1) cx.1 cx.2.1 cx.2.2.2.2.1 hin ty0 hty hnm cx.2.2.2.1 cx.2.2.2.2.2.1 hP (cx.2.2.2.2.2.2.2.2.1 _) hS t ht (q_cl_at hc.1) ob hk (cx.2.2.2.2.1 _ (q_wd_in ho.1.2)) (fun _ h => h) ho.2 hd hn hf (by rw [q_fs_len]; exact (List.getElem?_eq_some_iff.mp e_d).1) (q_dd ho.1.1) (fun H1 locs1 hP1 _ hS1 => ?_)
    rw [wl_set (cx.2.2.2.2.2.2.2.2.1 _) ht0, cj_sI e_w e_d h2] at hP1
    exact hg _ _ _ _ h H1 locs1 ls hP1 hS1 hl hL hst.2.2
  cases h0 : Nat.beq d.1 0 with
  | true =>
    rw [h0] at h
    have h00 := Nat.eq_of_beq_eq_true h0
    exact key .int (by rw [(hc.2.2.2 ob d e_d).1 h00]; rfl) rfl rfl (by omega) h
  | false =>
    rw [h0] at h
    obtain ⟨h1, h⟩ := q_bf h
    have h11 := Nat.eq_of_beq_eq_true h1
    by_cases hz : v.1 &&& 1 = v.1
    · rw [if_pos hz] at h
      exact key .boolean (by rw [(hc.2.2.2 ob d e_d).2 h11]; rfl) (q_b1 hz).1 (q_b1 hz).2 (by omega) h
    · rw [if_neg hz] at h
      cases h
theorem z_58 (cx : q_Cx mt p s m meth c args k D cy n ad A R cells slots) (hg : ∀ pc L st σ, g pc L st σ = some r → q_W mt p l e R s m args below meth c Q D cy ad n A k cells slots pc L st σ) (ho : q_okB mt k pc (58, ox, oa, ob, ol) = true) (h : q_stp n g cal pc (58, ox, oa, ob, ol) L st σ = some r) : q_W mt p l e R s m args below meth c Q D cy ad n A k cells slots pc L st σ := by
  replace ho : q_dc (mt k).2.1 pc .iaload 1 = true := ho
  replace h : ((q_pI st).bind fun j => (q_pR j.2).bind fun q => (q_ka q.1.1).bind fun w => bif Nat.beq w.1 0 then bif q_in j.1 (q_nn n w.2.2) then g (pc + 1) L (.inl (σ.2.1 q.1.1 q.1.2 j.1.toNatClampNeg) :: q.2) σ else none else none) = some r := h
  obtain ⟨j, e_j, h⟩ := Option.bind_eq_some_iff.mp h
  obtain ⟨q, e_q, h⟩ := Option.bind_eq_some_iff.mp h
  obtain ⟨w, e_w, h⟩ := Option.bind_eq_some_iff.mp h
  obtain ⟨hb, h⟩ := q_bf h
  obtain ⟨hz, h⟩ := q_bf h
  rw [q_pI_s e_j, q_pR_s e_q]
  intro H locs ls hP hS hl hL hst
  have hi : (q.1.1, q.1.2) ∈ idj n := q_ok_in hst.2.1 (q_ka_ne e_w)
  obtain ⟨t, ht0, ht⟩ := wl_at (ad := ad) (cn := cj cy ad n σ) hi
  rw [cj_a e_w] at ht
  rw [show w.1 = 0 from Nat.eq_of_beq_eq_true hb] at ht
  exact va_iald cx.1 cx.2.1 cx.2.2.2.2.2.1 hP t 0 ht rfl (q_in_p hz) (q_dd ho) (hg _ _ _ _ h H locs ls hP hS hl hL ⟨rfl, hst.2.2⟩)
theorem z_59 (cx : q_Cx mt p s m meth c args k D cy n ad A R cells slots) (hg : ∀ pc L st σ, g pc L st σ = some r → q_W mt p l e R s m args below meth c Q D cy ad n A k cells slots pc L st σ) (ho : q_okB mt k pc (59, ox, oa, ob, ol) = true) (h : q_stp n g cal pc (59, ox, oa, ob, ol) L st σ = some r) : q_W mt p l e R s m args below meth c Q D cy ad n A k cells slots pc L st σ := by
  replace ho : q_dc (mt k).2.1 pc .laload 1 = true := ho
  replace h : ((q_pI st).bind fun j => (q_pR j.2).bind fun q => (q_ka q.1.1).bind fun w => bif Nat.beq w.1 1 then bif q_in j.1 (q_nn n w.2.2) then g (pc + 1) L (.inr (.inl (σ.2.2.1 q.1.1 q.1.2 j.1.toNatClampNeg)) :: q.2) σ else none else none) = some r := h
  obtain ⟨j, e_j, h⟩ := Option.bind_eq_some_iff.mp h
  obtain ⟨q, e_q, h⟩ := Option.bind_eq_some_iff.mp h
  obtain ⟨w, e_w, h⟩ := Option.bind_eq_some_iff.mp h
  obtain ⟨hb, h⟩ := q_bf h
  obtain ⟨hz, h⟩ := q_bf h
  rw [q_pI_s e_j, q_pR_s e_q]
  intro H locs ls hP hS hl hL hst
  have hi : (q.1.1, q.1.2) ∈ idj n := q_ok_in hst.2.1 (q_ka_ne e_w)
  obtain ⟨t, ht0, ht⟩ := wl_at (ad := ad) (cn := cj cy ad n σ) hi
  rw [cj_a e_w] at ht
  rw [show w.1 = 1 from Nat.eq_of_beq_eq_true hb] at ht
  exact va_lald cx.1 cx.2.1 cx.2.2.2.2.2.1 hP t 1 ht rfl (q_in_p hz) (q_dd ho) (hg _ _ _ _ h H locs ls hP hS hl hL ⟨rfl, hst.2.2⟩)
theorem z_61 (cx : q_Cx mt p s m meth c args k D cy n ad A R cells slots) (hg : ∀ pc L st σ, g pc L st σ = some r → q_W mt p l e R s m args below meth c Q D cy ad n A k cells slots pc L st σ) (ho : q_okB mt k pc (61, ox, oa, ob, ol) = true) (h : q_stp n g cal pc (61, ox, oa, ob, ol) L st σ = some r) : q_W mt p l e R s m args below meth c Q D cy ad n A k cells slots pc L st σ := by
  replace ho : q_dc (mt k).2.1 pc .baload 1 = true := ho
  replace h : ((q_pI st).bind fun j => (q_pR j.2).bind fun q => (q_ka q.1.1).bind fun w => bif Nat.beq w.1 2 then bif q_in j.1 (q_nn n w.2.2) then g (pc + 1) L (.inl (σ.2.1 q.1.1 q.1.2 j.1.toNatClampNeg) :: q.2) σ else none else none) = some r := h
  obtain ⟨j, e_j, h⟩ := Option.bind_eq_some_iff.mp h
  obtain ⟨q, e_q, h⟩ := Option.bind_eq_some_iff.mp h
  obtain ⟨w, e_w, h⟩ := Option.bind_eq_some_iff.mp h
  obtain ⟨hb, h⟩ := q_bf h
  obtain ⟨hz, h⟩ := q_bf h
  rw [q_pI_s e_j, q_pR_s e_q]
  intro H locs ls hP hS hl hL hst
  have hi : (q.1.1, q.1.2) ∈ idj n := q_ok_in hst.2.1 (q_ka_ne e_w)
  obtain ⟨t, ht0, ht⟩ := wl_at (ad := ad) (cn := cj cy ad n σ) hi
  rw [cj_a e_w] at ht
  rw [show w.1 = 2 from Nat.eq_of_beq_eq_true hb] at ht
  exact va_zald cx.1 cx.2.1 cx.2.2.2.2.2.1 hP t 2 ht rfl (q_in_p hz) (q_dd ho) (hg _ _ _ _ h H locs ls hP hS hl hL ⟨rfl, hst.2.2⟩)
theorem z_60 (cx : q_Cx mt p s m meth c args k D cy n ad A R cells slots) (hg : ∀ pc L st σ, g pc L st σ = some r → q_W mt p l e R s m args below meth c Q D cy ad n A k cells slots pc L st σ) (ho : q_okB mt k pc (60, ox, oa, ob, ol) = true) (h : q_stp n g cal pc (60, ox, oa, ob, ol) L st σ = some r) : q_W mt p l e R s m args below meth c Q D cy ad n A k cells slots pc L st σ := by
  replace ho : q_dc (mt k).2.1 pc .aaload 1 = true := ho
  replace h : ((q_pI st).bind fun j => (q_pR j.2).bind fun q => (q_ka q.1.1).bind fun w => bif Nat.blt 2 w.1 then bif q_in j.1 (q_nn n w.2.2) then bif Nat.blt (σ.2.2.2 q.1.1 q.1.2 j.1.toNatClampNeg) (q_ct n w.2.1) then g (pc + 1) L (.inr (.inr (some (w.2.1, σ.2.2.2 q.1.1 q.1.2 j.1.toNatClampNeg))) :: q.2) σ else none else none else none) = some r := h
  obtain ⟨j, e_j, h⟩ := Option.bind_eq_some_iff.mp h
  obtain ⟨q, e_q, h⟩ := Option.bind_eq_some_iff.mp h
  obtain ⟨w, e_w, h⟩ := Option.bind_eq_some_iff.mp h
  obtain ⟨hb, h⟩ := q_bf h
  obtain ⟨hz, h⟩ := q_bf h
  obtain ⟨hx, h⟩ := q_bf h
  have h2 := Nat.blt_eq.mp hb
  rw [q_pI_s e_j, q_pR_s e_q]
  intro H locs ls hP hS hl hL hst
  have hi : (q.1.1, q.1.2) ∈ idj n := q_ok_in hst.2.1 (q_ka_ne e_w)
  obtain ⟨t, ht0, ht⟩ := wl_at (ad := ad) (cn := cj cy ad n σ) hi
  rw [cj_a e_w, q_ar_q h2] at ht
  obtain ⟨hw, hw2⟩ := q_kaB_at e_w
  obtain ⟨v, hv1, hv2⟩ := hw2 h2
  have hty := q_ty_at cy hw
  rw [hv2] at hty
  exact va_aldq cx.1 cx.2.1 cx.2.2.2.2.2.1 hP t w.1 ht hty (q_in_p hz) (q_dd ho) (hg _ _ _ _ h H locs ls hP hS hl hL ⟨q_ok_b hx, hst.2.2⟩)
theorem z_62 (cx : q_Cx mt p s m meth c args k D cy n ad A R cells slots) (hg : ∀ pc L st σ, g pc L st σ = some r → q_W mt p l e R s m args below meth c Q D cy ad n A k cells slots pc L st σ) (ho : q_okB mt k pc (62, ox, oa, ob, ol) = true) (h : q_stp n g cal pc (62, ox, oa, ob, ol) L st σ = some r) : q_W mt p l e R s m args below meth c Q D cy ad n A k cells slots pc L st σ := by
  replace ho : q_dc (mt k).2.1 pc .iastore 1 = true := ho
  replace h : ((q_pI st).bind fun v => (q_pI v.2).bind fun j => (q_pR j.2).bind fun q => (q_ka q.1.1).bind fun w => bif Nat.beq w.1 0 then bif q_in j.1 (q_nn n w.2.2) then g (pc + 1) L q.2 (q_sA σ q.1.1 q.1.2 (upd (σ.2.1 q.1.1 q.1.2) j.1.toNatClampNeg v.1)) else none else none) = some r := h
  obtain ⟨v, e_v, h⟩ := Option.bind_eq_some_iff.mp h
  obtain ⟨j, e_j, h⟩ := Option.bind_eq_some_iff.mp h
  obtain ⟨q, e_q, h⟩ := Option.bind_eq_some_iff.mp h
  obtain ⟨w, e_w, h⟩ := Option.bind_eq_some_iff.mp h
  obtain ⟨hb, h⟩ := q_bf h
  obtain ⟨hz, h⟩ := q_bf h
  rw [q_pI_s e_v, q_pI_s e_j, q_pR_s e_q]
  intro H locs ls hP hS hl hL hst
  have hi : (q.1.1, q.1.2) ∈ idj n := q_ok_in hst.2.2.1 (q_ka_ne e_w)
  obtain ⟨t, ht0, ht⟩ := wl_at (ad := ad) (cn := cj cy ad n σ) hi
  rw [cj_a e_w] at ht
  have hw : w.1 = 0 := Nat.eq_of_beq_eq_true hb
  rw [hw] at ht
  refine va_iast cx.1 cx.2.1 cx.2.2.2.2.2.1 hP (cx.2.2.2.2.2.2.2.2.1 _) hS t 0 ht rfl (q_in_p hz) (q_dd ho) (fun H1 locs1 hP1 _ hS1 => ?_)
  rw [wl_set (cx.2.2.2.2.2.2.2.2.1 _) ht0, cj_sA' e_w hw (Or.inl rfl)] at hP1
  exact hg _ _ _ _ h H1 locs1 ls hP1 hS1 hl hL hst.2.2.2
theorem z_63 (cx : q_Cx mt p s m meth c args k D cy n ad A R cells slots) (hg : ∀ pc L st σ, g pc L st σ = some r → q_W mt p l e R s m args below meth c Q D cy ad n A k cells slots pc L st σ) (ho : q_okB mt k pc (63, ox, oa, ob, ol) = true) (h : q_stp n g cal pc (63, ox, oa, ob, ol) L st σ = some r) : q_W mt p l e R s m args below meth c Q D cy ad n A k cells slots pc L st σ := by
  replace ho : q_dc (mt k).2.1 pc .lastore 1 = true := ho
  replace h : ((q_pL st).bind fun v => (q_pI v.2).bind fun j => (q_pR j.2).bind fun q => (q_ka q.1.1).bind fun w => bif Nat.beq w.1 1 then bif q_in j.1 (q_nn n w.2.2) then g (pc + 1) L q.2 (q_sL σ q.1.1 q.1.2 (vp_updL (σ.2.2.1 q.1.1 q.1.2) j.1.toNatClampNeg v.1)) else none else none) = some r := h
  obtain ⟨v, e_v, h⟩ := Option.bind_eq_some_iff.mp h
  obtain ⟨j, e_j, h⟩ := Option.bind_eq_some_iff.mp h
  obtain ⟨q, e_q, h⟩ := Option.bind_eq_some_iff.mp h
  obtain ⟨w, e_w, h⟩ := Option.bind_eq_some_iff.mp h
  obtain ⟨hb, h⟩ := q_bf h
  obtain ⟨hz, h⟩ := q_bf h
  rw [q_pL_s e_v, q_pI_s e_j, q_pR_s e_q]
  intro H locs ls hP hS hl hL hst
  have hi : (q.1.1, q.1.2) ∈ idj n := q_ok_in hst.2.2.1 (q_ka_ne e_w)
  obtain ⟨t, ht0, ht⟩ := wl_at (ad := ad) (cn := cj cy ad n σ) hi
  rw [cj_a e_w] at ht
  have hw : w.1 = 1 := Nat.eq_of_beq_eq_true hb
  rw [hw] at ht
  refine va_last cx.1 cx.2.1 cx.2.2.2.2.2.1 hP (cx.2.2.2.2.2.2.2.2.1 _) hS t 1 ht rfl (q_in_p hz) (q_dd ho) (fun H1 locs1 hP1 _ hS1 => ?_)
  rw [wl_set (cx.2.2.2.2.2.2.2.2.1 _) ht0, cj_sL' e_w hw rfl] at hP1
  exact hg _ _ _ _ h H1 locs1 ls hP1 hS1 hl hL hst.2.2.2
theorem z_65 (cx : q_Cx mt p s m meth c args k D cy n ad A R cells slots) (hg : ∀ pc L st σ, g pc L st σ = some r → q_W mt p l e R s m args below meth c Q D cy ad n A k cells slots pc L st σ) (ho : q_okB mt k pc (65, ox, oa, ob, ol) = true) (h : q_stp n g cal pc (65, ox, oa, ob, ol) L st σ = some r) : q_W mt p l e R s m args below meth c Q D cy ad n A k cells slots pc L st σ := by
  replace ho : q_dc (mt k).2.1 pc .bastore 1 = true := ho
  replace h : ((q_pI st).bind fun v => (q_pI v.2).bind fun j => (q_pR j.2).bind fun q => (q_ka q.1.1).bind fun w => bif Nat.beq w.1 2 then bif q_in j.1 (q_nn n w.2.2) then if v.1 &&& 1 = v.1 then g (pc + 1) L q.2 (q_sA σ q.1.1 q.1.2 (upd (σ.2.1 q.1.1 q.1.2) j.1.toNatClampNeg v.1)) else none else none else none) = some r := h
  obtain ⟨v, e_v, h⟩ := Option.bind_eq_some_iff.mp h
  obtain ⟨j, e_j, h⟩ := Option.bind_eq_some_iff.mp h
  obtain ⟨q, e_q, h⟩ := Option.bind_eq_some_iff.mp h
  obtain ⟨w, e_w, h⟩ := Option.bind_eq_some_iff.mp h
  obtain ⟨hb, h⟩ := q_bf h
  obtain ⟨hz, h⟩ := q_bf h
  by_cases hv : ¬ (v.1 &&& 1 = v.1)
  · rw [if_neg hv] at h
    cases h
  replace hv := Classical.not_not.mp hv
  rw [if_pos hv] at h
  rw [q_pI_s e_v, q_pI_s e_j, q_pR_s e_q]
  intro H locs ls hP hS hl hL hst
  have hi : (q.1.1, q.1.2) ∈ idj n := q_ok_in hst.2.2.1 (q_ka_ne e_w)
  obtain ⟨t, ht0, ht⟩ := wl_at (ad := ad) (cn := cj cy ad n σ) hi
  rw [cj_a e_w] at ht
  have hw : w.1 = 2 := Nat.eq_of_beq_eq_true hb
  rw [hw] at ht
  refine va_zast cx.1 cx.2.1 cx.2.2.2.2.2.1 hP (cx.2.2.2.2.2.2.2.2.1 _) hS t 2 ht rfl (q_in_p hz) (q_dd ho) (fun H1 locs1 hP1 _ hS1 => ?_)
  rw [show vp_nar .boolean v.1 = v.1 from hv] at hP1
  rw [wl_set (cx.2.2.2.2.2.2.2.2.1 _) ht0, cj_sA' e_w hw (Or.inr rfl)] at hP1
  exact hg _ _ _ _ h H1 locs1 ls hP1 hS1 hl hL hst.2.2.2
theorem z_64 (cx : q_Cx mt p s m meth c args k D cy n ad A R cells slots) (hg : ∀ pc L st σ, g pc L st σ = some r → q_W mt p l e R s m args below meth c Q D cy ad n A k cells slots pc L st σ) (ho : q_okB mt k pc (64, ox, oa, ob, ol) = true) (h : q_stp n g cal pc (64, ox, oa, ob, ol) L st σ = some r) : q_W mt p l e R s m args below meth c Q D cy ad n A k cells slots pc L st σ := by
  replace ho : q_dc (mt k).2.1 pc .aastore 1 = true := ho
  replace h : ((q_pR st).bind fun v => (q_pI v.2).bind fun j => (q_pR j.2).bind fun q => (q_ka q.1.1).bind fun w => bif Nat.blt 2 w.1 && Nat.beq w.2.1 v.1.1 then bif q_in j.1 (q_nn n w.2.2) then g (pc + 1) L q.2 (q_sP σ q.1.1 q.1.2 (va_up (σ.2.2.2 q.1.1 q.1.2) j.1.toNatClampNeg v.1.2)) else none else none) = some r := h
  obtain ⟨v, e_v, h⟩ := Option.bind_eq_some_iff.mp h
  obtain ⟨j, e_j, h⟩ := Option.bind_eq_some_iff.mp h
  obtain ⟨q, e_q, h⟩ := Option.bind_eq_some_iff.mp h
  obtain ⟨w, e_w, h⟩ := Option.bind_eq_some_iff.mp h
  obtain ⟨hb, h⟩ := q_bf h
  obtain ⟨hz, h⟩ := q_bf h
  simp only [Bool.and_eq_true] at hb
  have h2 := Nat.blt_eq.mp hb.1
  have h3 := Nat.eq_of_beq_eq_true hb.2
  rw [q_pR_s e_v, q_pI_s e_j, q_pR_s e_q]
  intro H locs ls hP hS hl hL hst
  have hi : (q.1.1, q.1.2) ∈ idj n := q_ok_in hst.2.2.1 (q_ka_ne e_w)
  obtain ⟨t, ht0, ht⟩ := wl_at (ad := ad) (cn := cj cy ad n σ) hi
  rw [cj_a e_w, q_ar_q h2] at ht
  obtain ⟨hw, hw2⟩ := q_kaB_at e_w
  obtain ⟨vo, hv1, hv2⟩ := hw2 h2
  rw [h3] at hv1
  have hiv : (v.1.1, v.1.2) ∈ idj n := q_ok_in hst.1 (q_ko_ne hv1)
  obtain ⟨t2, -, ht2⟩ := wl_at (ad := ad) (cn := cj cy ad n σ) hiv
  rw [cj_o hv1] at ht2
  have hty := q_ty_at cy hw
  rw [hv2] at hty
  refine va_astq (r := ((q_cl vo.1).1, (q_cl vo.1).2.1, (q_cl vo.1).2.2)) cx.1 cx.2.1 cx.2.2.2.2.2.1 hP (cx.2.2.2.2.2.2.2.2.1 _) hS t w.1 t2 vo.1 ht hty ht2 (q_cl_at (q_kB_at hv1).1) (q_in_p hz) (q_dd ho) (fun H1 locs1 hP1 _ hS1 => ?_)
  rw [wl_set (cx.2.2.2.2.2.2.2.2.1 _) ht0, show va_up (fun i => some (ad w.2.1 (σ.2.2.2 q.1.1 q.1.2 i))) j.1.toNatClampNeg (some (ad v.1.1 v.1.2)) = (fun i => some (ad w.2.1 (va_up (σ.2.2.2 q.1.1 q.1.2) j.1.toNatClampNeg v.1.2 i))) from ?_, cj_sP e_w h2] at hP1
  · exact hg _ _ _ _ h H1 locs1 ls hP1 hS1 hl hL hst.2.2.2
  · funext i
    by_cases hq : i = j.1.toNatClampNeg
    · simp [va_up, hq, h3]
    · simp [va_up, hq]
theorem z_66 (cx : q_Cx mt p s m meth c args k D cy n ad A R cells slots) (hg : ∀ pc L st σ, g pc L st σ = some r → q_W mt p l e R s m args below meth c Q D cy ad n A k cells slots pc L st σ) (ho : q_okB mt k pc (66, ox, oa, ob, ol) = true) (h : q_stp n g cal pc (66, ox, oa, ob, ol) L st σ = some r) : q_W mt p l e R s m args below meth c Q D cy ad n A k cells slots pc L st σ := by
  replace ho : q_dc (mt k).2.1 pc .arraylength 1 = true := ho
  replace h : ((q_pR st).bind fun q => (q_ka q.1.1).bind fun w => g (pc + 1) L (.inl (Int32.ofNat (q_nn n w.2.2)) :: q.2) σ) = some r := h
  obtain ⟨q, e_q, h⟩ := Option.bind_eq_some_iff.mp h
  obtain ⟨w, e_w, h⟩ := Option.bind_eq_some_iff.mp h
  rw [q_pR_s e_q]
  intro H locs ls hP hS hl hL hst
  have hi : (q.1.1, q.1.2) ∈ idj n := q_ok_in hst.1 (q_ka_ne e_w)
  obtain ⟨t, ht0, ht⟩ := wl_at (ad := ad) (cn := cj cy ad n σ) hi
  rw [cj_a e_w] at ht
  exact va_alen cx.1 cx.2.1 cx.2.2.2.2.2.1 hP t w.1 ht (q_ty_at cy (q_kaB_at e_w).1) rfl (q_dd ho) (hg _ _ _ _ h H locs ls hP hS hl hL ⟨rfl, hst.2⟩)
end SNH
