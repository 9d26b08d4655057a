/-! The law's helpers: their contracts. Ours. -/
def q_hhl : List (List (Nat × Nat × Nat × Nat)) := [[(0, 9, 12, 13), (0, 9, 15, 15)], [(0, 9, 12, 13)], [(0, 9, 12, 13), (0, 9, 15, 15)], [(0, 12, 15, 13), (0, 12, 19, 15), (0, 12, 23, 17), (0, 12, 27, 19)], [(0, 12, 15, 13), (0, 12, 19, 15), (0, 12, 23, 17)], [(0, 11, 14, 13), (0, 11, 18, 15), (0, 11, 22, 17)], [(0, 10, 13, 13), (0, 10, 17, 15), (0, 10, 21, 17)], [(0, 16, 19, 13), (0, 16, 23, 15), (0, 16, 27, 17), (0, 16, 31, 19)], [(0, 9, 12, 13)], [(0, 9, 12, 13), (0, 9, 15, 15), (0, 9, 18, 19)], [(0, 9, 12, 13), (0, 9, 15, 15), (0, 9, 18, 17), (0, 9, 21, 19)], [(0, 10, 13, 13), (0, 10, 17, 15), (0, 10, 21, 17), (0, 10, 25, 19)], [(0, 19, 22, 13), (0, 19, 26, 15), (0, 19, 30, 17)], [(0, 10, 13, 13)], [(0, 10, 13, 13)], [(0, 16, 19, 13)], [(0, 9, 12, 13), (0, 9, 15, 15), (0, 9, 18, 17), (0, 9, 21, 19)], [(0, 9, 12, 17)]]
def q_hhs (k : Nat) : List (Nat × Nat × Nat × Nat) := q_hhl.getD (k - 123) []
def q_h2 (k pc : Nat) (code : Int) : Bool := (match q_pr k pc with
  | some o => Nat.beq o.1 0 && decide (o.2.1 = code)
  | none => false) && (match q_pr k (pc + 1) with
  | some o => Nat.beq o.1 72
  | none => false)
def q_h1 (k h : Nat) (code : Int) : Bool := match q_pr k h with
  | some o => bif Nat.beq o.1 16 then q_h2 k (h + 1) code else bif Nat.beq o.1 17 then q_h2 k (h + 2) code else false
  | none => false
def q_hp (k pc ex : Nat) (code : Int) : Bool := match q_pick pc ex (q_hhs k) with
  | none => false
  | some h => q_h1 k h code
def q_hBo (k ex : Nat) (code : Int) (q : Nat × Op) : Bool := bif Nat.beq q.2.1 67 then q_hp k q.1 ex code else (!(Nat.beq q.2.1 68) && !(Nat.beq q.2.1 77))
/-- every call in k that throws ex is caught, and code is what k answers then -/
def q_hB (k ex : Nat) (code : Int) : Bool := (q_prg.getD k []).all (q_hBo k ex code)
theorem q_all_at {T : List (Nat × Op)} {F : Nat × Op → Bool} (h : T.all F = true) {pc : Nat} {o : Op} (ho : q_fd T pc = some o) : F (pc, o) = true := List.all_eq_true.mp h (pc, o) (q_fd_in ho)
theorem q_hB_at {k ex : Nat} {code : Int} (hB : q_hB k ex code = true) {pc : Nat} {o : Op} (ho : q_pr k pc = some o) : q_hBo k ex code (pc, o) = true := by
  unfold q_hB at hB
  unfold q_pr at ho
  exact q_all_at hB ho
theorem q_MQ_mono {below : List Frame} {Qc : Array Value → State → Outcome → State → Prop} {a : Array Value} {s : State} {mc ms mc' ms' : Nat} {free : Addr → Prop} (h1 : mc ≤ mc') (h2 : ms ≤ ms') {t : State} (h : MQ below Qc a s mc ms free t) : MQ below Qc a s mc' ms' free t := by
  obtain ⟨o, g1, g2, g3, L, ⟨g4, g5, g6⟩, g7⟩ := h
  exact ⟨o, g1, g2, g3, L, ⟨g4, g5, State.sameButNew.mono g6 h1 h2⟩, g7⟩
section HLP
variable {p : Program} {l : Launch} {e : Env} {R : Room} {s : State} {m : MethodId} {args : Array Value} {below : List Frame} {meth : Method} {c : Code} {D : va_G} {cy : Nat → ClassId} {ad : Nat → Nat → Nat} {n k cells slots : Nat} {A : Nat → Prop}
theorem q_hW2 (hpr : ∀ k pc o, q_pr k pc = some o → q_okB q_mt k pc o = true) (cx : q_Cx q_mt p s m meth c args k D cy n ad A R cells slots) {pc : Nat} {code : Int} {σ1 : J} (hh : q_h2 k pc code = true) {H : Heap} {locs : List Loc} {ls : Array Slot} {mc ms : Nat} (hP : WJ D cy ad n σ1 H) (hS : va_S A s.heap H locs) :
    W p l e R s m args below meth c H locs mc ms (MQ below (q_Q D cy ad n A (some (.int (Int32.ofInt code))) σ1) args s mc ms A) (F0 m pc ls []) := by
  unfold q_h2 at hh
  rw [Bool.and_eq_true] at hh
  obtain ⟨h1, h2⟩ := hh
  cases e1 : q_pr k pc with
  | none => rw [e1] at h1; cases h1
  | some o =>
    rw [e1] at h1
    obtain ⟨c1, x1, r1⟩ := o
    replace h1 : (Nat.beq c1 0 && decide (x1 = code)) = true := h1
    rw [Bool.and_eq_true] at h1
    obtain rfl := Nat.eq_of_beq_eq_true h1.1
    obtain rfl := of_decide_eq_true h1.2
    have o1 : q_dc (q_mt k).2.1 pc (.iconst x1) 1 = true := hpr k pc _ e1
    cases e2 : q_pr k (pc + 1) with
    | none => rw [e2] at h2; cases h2
    | some o =>
      rw [e2] at h2
      obtain ⟨c2, r2⟩ := o
      replace h2 : Nat.beq c2 72 = true := h2
      obtain rfl := Nat.eq_of_beq_eq_true h2
      have o2 : (q_dc (q_mt k).2.1 (pc + 1) .ireturn 1 && decide ((q_mt k).2.2.2 = some .int)) = true := hpr k (pc + 1) _ e2
      rw [Bool.and_eq_true] at o2
      refine lv_iconst cx.1 cx.2.1 (q_dd o1) rfl ?_
      exact W.iret cx.1 cx.2.1 (cx.2.2.2.2.2.2.1.trans (of_decide_eq_true o2.2)) (fun _ ht _ => ⟨rfl, by rw [ht]; exact hP, hS.F ht⟩) hS.2.2 (q_dd o2.1) cx.2.2.2.2.2.2.2.1
theorem q_hW1 (hpr : ∀ k pc o, q_pr k pc = some o → q_okB q_mt k pc o = true) (cx : q_Cx q_mt p s m meth c args k D cy n ad A R cells slots) {h : Nat} {code : Int} {σ1 : J} (hh : q_h1 k h code = true) {H : Heap} {locs : List Loc} {ls : Array Slot} {x : Addr} {mc ms : Nat} (hP : WJ D cy ad n σ1 H) (hS : va_S A s.heap H locs) (hl : lv_has ls (q_mt k).2.2.1 []) :
    W p l e R s m args below meth c H locs mc ms (MQ below (q_Q D cy ad n A (some (.int (Int32.ofInt code))) σ1) args s mc ms A) (F0 m h ls [.ref x]) := by
  unfold q_h1 at hh
  cases e1 : q_pr k h with
  | none => rw [e1] at hh; cases hh
  | some o =>
    rw [e1] at hh
    obtain ⟨c1, ox, oa, ob, ol⟩ := o
    replace hh : (bif Nat.beq c1 16 then q_h2 k (h + 1) code else bif Nat.beq c1 17 then q_h2 k (h + 2) code else false) = true := hh
    cases h16 : Nat.beq c1 16 with
    | true =>
      rw [h16] at hh
      obtain rfl := Nat.eq_of_beq_eq_true h16
      have o1 : (q_dc (q_mt k).2.1 h (.astore_n (Fin.ofNat 4 oa)) 1 && decide (((Fin.ofNat 4 oa : Fin 4) : Nat) = oa) && Nat.blt oa (q_mt k).2.2.1) = true := hpr k h _ e1
      simp only [Bool.and_eq_true] at o1
      exact lv_astore_n cx.1 cx.2.1 (q_dd o1.1.1) (of_decide_eq_true o1.1.2) hl (Nat.blt_eq.mp o1.2) rfl (fun ls' hl' => q_hW2 hpr cx hh hP hS)
    | false =>
      rw [h16] at hh
      cases h17 : Nat.beq c1 17 with
      | false => rw [h17] at hh; cases hh
      | true =>
        rw [h17] at hh
        obtain rfl := Nat.eq_of_beq_eq_true h17
        have o1 : (q_dc (q_mt k).2.1 h (.astore oa) 2 && Nat.blt oa (q_mt k).2.2.1) = true := hpr k h _ e1
        simp only [Bool.and_eq_true] at o1
        exact lv_astore cx.1 cx.2.1 (q_dd o1.1) hl (Nat.blt_eq.mp o1.2) rfl (fun ls' hl' => q_hW2 hpr cx hh hP hS)
end HLP
def q_rmh (d : Nat) : Room := { frames := d + 7, cells := 1, slots := 6, locals := 49 * d + 160 }
/-- what a helper answers: its own answer, or the code of what was thrown -/
def q_hv (cd : Nat → Int) (r : Option PV ⊕ Nat) : Option PV := match r with
  | .inl v => v
  | .inr ex => some (.inl (Int32.ofInt (cd ex)))
abbrev q_hcw (k : Nat) : Cond := Cond.codeWith (q_mt k).1 (q_mt k).2.1 (q_mt k).2.2.1 (q_mt k).2.2.2 (q_hhs k)
theorem q_metH {n : Nat} {l : Launch} {D : va_G} {cy : Nat → ClassId} {ad : Nat → Nat → Nat} {A : Nat → Prop} (hI : ∀ cn, va_D A (wl (idj n) ad cn)) (hpr : ∀ k pc o, q_pr k pc = some o → q_okB q_mt k pc o = true) (hpl : ∀ k, plainName (q_mt k).1.cls = true) (htr : ∀ e, l.admits e → e.platform.stackTraces = false)
    {d f k : Nat} {vs : List PV} {σ : J} {r : Option PV ⊕ Nat} {σ1 : J} {cd : Nat → Int} (hlaw : (q_mt k).1.cls = "JobBoardLaw") (hcd : ∀ ex, r = .inr ex → 1 ≤ ex ∧ ex ≤ 4 ∧ q_hB k ex (cd ex) = true) (h : q_run q_pr n (d + 1) f k 0 (q_args 0 vs) [] σ = some (r, σ1)) (hw : (vs.map q_cat).sum ≤ (q_mt k).2.2.1) (hk : q_oks n vs) :
    Met l (q_mt k).1 (q_hcw k :: gt) (q_rmh d) (va_Pc (vs.map (q_tv ad)) (fun U => WJ D cy ad n σ U.heap ∧ va_K D vcl (q_ty cy) U ∧ q_Th A U ∧ q_Tn U)) (q_Q D cy ad n A ((q_hv cd r).map (q_tv ad)) σ1) 1 6 A := by
  refine va_MetW (cc := (q_mt k).2.1) (maxL := (q_mt k).2.2.1) (ret := (q_mt k).2.2.2) (hpl k) rfl ?_
  intro p e s m args below meth c s₁ B hml hv
  obtain ⟨rfl, hP, hK, hTh, hTn⟩ := hv
  rw [lg_entry_eq]
  have hpre := atoms_spec (ws := q_hcw k :: gt) B.pre
  have cx : q_Cx q_mt p s m meth c (vs.map (q_tv ad)).toArray k D cy n ad A (q_rmh d) 0 0 := ⟨B.exec, B.bytes, hml, findClass_of_methodNamed B.named, fun w h => hpre w (List.mem_cons_of_mem _ h), hK, B.returns, B.notSynchronized, hI, by show 1 ≤ d + 7; omega, by show 40 ≤ 49 * d + 160; omega, Nat.zero_le _, Nat.zero_le _⟩
  have he := q_args_has (lv_entry (vs.map (q_tv ad)) (n := (q_mt k).2.2.1) (by rw [q_sl_len, q_cats]; exact hw))
  have hLk : ∀ b w, q_args 0 vs b = some w → q_ok n w = true := fun b w hb => q_oks_iff.mp hk _ (q_args_in (ad := ad) hb).1
  cases r with
  | inl v =>
    have hW := q_frame (l := l) (e := e) (below := below) hpr (d + 1) (fun d' hd' => q_met hI hpr hpl d') cx (by show d + 1 + 1 ≤ d + 7; omega) (by show 49 * (d + 1) + 60 ≤ 49 * d + 160; omega) f 0 (q_args 0 vs) [] σ h s.heap [] _ hP va_S.rf he hLk trivial
    intro T hT X
    obtain ⟨t, a1, b1⟩ := hW T hT X
    exact ⟨t, a1, q_MQ_mono (by decide) (by decide) b1⟩
  | inr ex =>
    obtain ⟨hx1, hx4, hB⟩ := hcd ex rfl
    have htab : c.exceptionTable.toList.map (fun h => (h.startPc, h.endPc, h.handlerPc, h.catchType)) = q_hhs k := by
      obtain ⟨m9, meth9, c9, hn9, h1, h2, h3, h4, h5, -⟩ := Cond.codeWith_spec (hpre _ List.mem_cons_self)
      cases B.named.symm.trans hn9
      cases B.method.symm.trans h1
      cases (Stand.of_body B).code.symm.trans h2
      exact h5
    have hall : ∀ pc o, q_pr k pc = some o → q_hBo k ex (cd ex) (pc, o) = true := fun pc o ho => q_hB_at hB ho
    exact q_frameH hI hpr hpl htr d cx hTh hTn hlaw (Nat.le_refl _) (Nat.le_refl _) (Nat.le_refl _) (Nat.le_refl _) hx1 hx4 (fun pc o ho => by
        have h1 : (bif Nat.beq o.1 67 then q_hp k pc ex (cd ex) else (!(Nat.beq o.1 68) && !(Nat.beq o.1 77))) = true := hall pc o ho
        cases h67 : Nat.beq o.1 67 with
        | true =>
          have := Nat.eq_of_beq_eq_true h67
          omega
        | false =>
          rw [h67] at h1
          replace h1 : (!(Nat.beq o.1 68) && !(Nat.beq o.1 77)) = true := h1
          simp only [Bool.and_eq_true, Bool.not_eq_true'] at h1
          exact ⟨q_beq_ne h1.1, q_beq_ne h1.2⟩) (fun pc o ho h67 => by
        have h1 : (bif Nat.beq o.1 67 then q_hp k pc ex (cd ex) else (!(Nat.beq o.1 68) && !(Nat.beq o.1 77))) = true := hall pc o ho
        rw [h67, show Nat.beq 67 67 = true from rfl, cond_true] at h1
        unfold q_hp at h1
        rw [htab]
        cases hpk : q_pick pc ex (q_hhs k) with
        | none => rw [hpk] at h1; cases h1
        | some hp =>
          rw [hpk] at h1
          exact ⟨hp, rfl, fun H locs ls x hP hS hl => q_hW1 hpr cx h1 hP hS hl⟩) f 0 (q_args 0 vs) [] σ h s.heap [] _ hP va_S.rf he hLk trivial
