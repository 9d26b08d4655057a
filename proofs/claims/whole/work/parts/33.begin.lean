/-! The law's beginning: cell, the two constructors, the row of answers. Ours. -/
def y_cell : MethodName := ⟨"JobBoardLaw", "cell", "([II)I"⟩
def r_x0 (Lx : Nat) (xs : Nat → Int32) : Int32 := if 0 < Lx then xs 0 else 0
theorem r_len0 {Lx : Nat} (hL : Lx ≤ 4097) : (Int32.ofNat Lx ≤ 0) ↔ Lx = 0 := by
  rw [Int32.le_iff_toInt_le, Int32.toInt_ofNat_of_lt (by omega)]
  show ((Lx : Int) ≤ 0) ↔ _
  omega
theorem cell_met {l : Launch} {b Lx h0 : Nat} {xs : Nat → Int32} (hb : b < h0) (hL : Lx ≤ 4097) : Met l y_cell (Cond.code y_cell method_2_code 2 (some .int) :: gt) { frames := 1, cells := 0, slots := 0, locals := 40 } (va_Pc [.ref b, .int 0] (fun U => va_X b Lx xs U U.heap ∧ h0 ≤ U.heap.size)) (fun _ st o t => o = .returned (some (.int (r_x0 Lx xs))) ∧ t.heap = st.heap) 0 0 (r_A h0) := by
  refine Met.ofW (cc := method_2_code) (maxL := 2) (ret := some .int) (by decide) rfl ?_
  intro p e s m args below meth c s₁ B hml hv
  obtain ⟨rfl, hX, hz⟩ := hv
  rw [lg_entry_eq]
  have he : lv_has _ 2 [(0, Value.ref b), (1, Value.int 0)] := lv_entry [Value.ref b, Value.int 0] (n := 2) (Nat.le_refl 2)
  have hbl : b < s.heap.size := Nat.lt_of_lt_of_le hb hz
  have hbA : ¬ r_A h0 b := fun q => by
    replace q : h0 ≤ b := q
    omega
  have d13 : decode method_2_code 13 = .ok (.ireturn, 1) := by decide +kernel
  refine lv_iload_n (k := 1) (i := 1) B.exec B.bytes (by decide +kernel) rfl (lv_at he 1 rfl) ?_
  refine lv_aload_n (k := 0) (i := 0) B.exec B.bytes (by decide +kernel) rfl (lv_at he 0 rfl) ?_
  refine va_slen B.exec B.bytes hX hbl hbA va_S.rf (by decide +kernel) ?_
  refine lv_icmp_ge (tgt := 12) (off := 9) B.exec B.bytes (by decide +kernel) rfl (fun hc => ?_) (fun hc => ?_)
  · have h0 := (r_len0 hL).mp hc
    refine lv_iconst (n := 0) (v := 0) B.exec B.bytes (by decide +kernel) rfl ?_
    exact W.iret B.exec B.bytes B.returns (fun t ht _ => ⟨by unfold r_x0; rw [if_neg (by omega)], ht⟩) (fun q hq => by cases hq) d13 B.notSynchronized
  · have h0 : 0 < Lx := Nat.pos_of_ne_zero fun q => hc ((r_len0 hL).mpr q)
    refine lv_aload_n (k := 0) (i := 0) B.exec B.bytes (by decide +kernel) rfl (lv_at he 0 rfl) ?_
    refine lv_iload_n (k := 1) (i := 1) B.exec B.bytes (by decide +kernel) rfl (lv_at he 1 rfl) ?_
    refine va_sld B.exec B.bytes hX hbl hbA va_S.rf (fun q => by
      rcases q with q | q
      · exact absurd q (by decide)
      · have : (0 : Int32).toNatClampNeg = 0 := rfl
        omega) (by decide +kernel) ?_
    refine lv_goto (tgt := 13) (off := 4) B.exec B.bytes (by decide +kernel) rfl ?_
    exact W.iret B.exec B.bytes B.returns (fun t ht _ => ⟨by unfold r_x0; rw [if_pos h0]; rfl, ht⟩) (fun q hq => by cases hq) d13 B.notSynchronized
section BEG
variable {p : Program} {l : Launch} {e : Env} {R : Room} {s : State} {m : MethodId} {args : Array Value} {below : List Frame} {meth : Method} {c : Code} {Q : State → Prop} {D : va_G} {cy : Nat → ClassId} {b Lx : Nat} {xs : Nat → Int32}
/-- what holds at the law's beginning -/
def q_B0 (p : Program) (l : Launch) (R : Room) (s : State) (m : MethodId) (c : Code) (args : Array Value) (D : va_G) (cy : Nat → ClassId) (b Lx : Nat) (xs : Nat → Int32) : Prop :=
  p.tables.exec = Jvm.exec ∧ c.code = code ∧ c.maxLocals = 8 ∧ s.vm.findClass "JobBoardLaw" = some m.cls ∧ (∀ w ∈ gt, w.before args s = true) ∧ va_K D vcl (q_ty cy) s ∧ r_Nw s ∧ va_X b Lx xs s s.heap ∧ b < s.heap.size ∧ Lx ≤ 4097 ∧ 40 ≤ R.frames ∧ 3000 ≤ R.locals ∧ 1000 ≤ R.cells ∧ 3000 ≤ R.slots
theorem q_go2 {H : Heap} {locs : List Loc} {ls : Array Slot} {rest st0 : List Value} {σ1 : CL} {a : Array Value} {cells slots mc ms pc h0 h1 : Nat} (h01 : h0 ≤ h1) (hv : va_Run p l e R s m args below meth c H locs cells slots mc ms (F0 m pc ls st0) rest (r_Q D cy h1 σ1 a) (r_A h1)) (hS : va_S (r_A h0) s.heap H locs)
    (kk : ∀ (H1 : Heap) (locs1 : List Loc), va_P D vcl (r_ws cy h1 0 σ1) H1 → (∀ q, q < H.size → q < h1 → H1[q]? = H[q]?) → va_S (r_A h0) s.heap H1 locs1 → W p l e R s m args below meth c H1 locs1 (cells + mc) (slots + ms) Q (F0 m (pc + 3) ls rest)) : W p l e R s m args below meth c H locs cells slots Q (F0 m pc ls st0) := by
  intro T hT X
  obtain ⟨v', st₀, t, T', L', h0', X', hL, e1, e2, ⟨hv', hw, hz, hk⟩, st'⟩ := hv T hT X
  cases hv'
  rw [h0'] at hz hk
  have hk2 : ∀ q, q < H.size → q < h1 → T'.heap[q]? = H[q]? := fun q g1 g2 => by
    rw [e1]
    exact hk q g1 (fun g3 => by
      replace g3 : h1 ≤ q := g3
      omega)
  obtain ⟨t2, a1, b1⟩ := kk T'.heap (locs ++ L') (by rw [e1]; exact hw) hk2 ⟨Nat.le_trans hS.1 (by rw [e1]; exact hz), fun q g1 g2 => by
      have g3 : ¬ h0 ≤ q := g2
      rw [hk2 q (Nat.lt_of_lt_of_le g1 hS.1) (by omega)]
      exact hS.2.1 q g1 g2, fun q hq => by
      rcases List.mem_append.mp hq with h | h
      · exact hS.2.2 q h
      · exact Nat.le_trans h01 (hL q h)⟩ T' rfl X'
  exact ⟨t2, st' t2 a1, b1⟩
theorem law_cell (B0 : q_B0 p l R s m c args D cy b Lx xs) {H : Heap} {locs : List Loc} {ls : Array Slot} {rest : List Value} {cells slots pc : Nat} (hS : va_S (r_A s.heap.size) s.heap H locs) (hls : ls.size = 8) (hro : (rest.map fun v => v.category).sum ≤ 8) (hdg : decode code pc = .ok (.invokestatic 80, 3)) (hc : cells ≤ R.cells) (hs : slots ≤ R.slots)
    (kk : ∀ (locs1 : List Loc), va_S (r_A s.heap.size) s.heap H locs1 → W p l e R s m args below meth c H locs1 cells slots Q (F0 m (pc + 3) ls (.int (r_x0 Lx xs) :: rest))) : W p l e R s m args below meth c H locs cells slots Q (F0 m pc ls (.int 0 :: .ref b :: rest)) := by
  obtain ⟨hx, hb, hml, hown, hts, hK, hN, hX, hbl, hL, hf, hlo, -, -⟩ := B0
  have hw : Cond.methodLink "JobBoardLaw" 80 y_cell ∈ gt ∧ Cond.static y_cell ∈ gt ∧ Cond.initialized y_cell.cls ∈ gt ∧ Cond.code y_cell method_2_code 2 (some .int) ∈ gt := ⟨q_wm_in (by decide +kernel), q_wm_in (by decide +kernel), q_wm_in (by decide +kernel), q_wm_in (by decide +kernel)⟩
  have hM := cell_met (l := l) (xs := xs) hbl hL
  have hW := va_runS (e := e) (below := below) (meth := meth) (g := F0 m pc ls (.int 0 :: .ref b :: rest)) (As := [.ref b, .int 0]) (rest := rest) (H := H) (locs := locs) (cells := cells) (slots := slots) (Ts := gt) ⟨hx, hb, hml, hown, hts⟩ hM
    ⟨callB_of (index := 80) 2 hts (gi_1 hw.2.2.2) rfl rfl rfl (hts _ hw.2.2.1) (hts _ hw.1) ⟨by decide, by decide, by decide +kernel⟩ ⟨by show 1 + 1 ≤ R.frames; omega, by show 8 + (2 + 11) + 40 ≤ R.locals; omega⟩, hts _ hw.2.1⟩
    ⟨fun a U g mk z => ⟨z.1, z.2.1.moved (u := U) (U := U.calling g mk a) (Vm.Alike.refl U.vm), z.2.2⟩, fun U hU hw => ⟨rfl, by
      rw [hU]
      exact (hX.kept (hS.2.1 b hbl (fun q => by
        replace q : s.heap.size ≤ b := q
        omega))).moved hw.alike, by rw [hU]; exact hS.1⟩⟩ rfl rfl hls rfl (lv_room hro) hdg ⟨hc, hs⟩
  intro T hT X
  obtain ⟨v', st₀, t, T', L', h0', X', hL', e1, e2, ⟨hv', hhp⟩, st'⟩ := hW T hT X
  cases hv'
  obtain ⟨t2, a1, b1⟩ := kk (locs ++ L') ⟨hS.1, hS.2.1, fun q hq => by
      rcases List.mem_append.mp hq with h | h
      · exact hS.2.2 q h
      · exact hL' q h⟩ T' (by rw [e1, hhp, h0']) X'
  exact ⟨t2, st' t2 a1, b1⟩
end BEG
