/-! The law's beginning, from its entry to its loop. Ours. -/
section BE3
variable {p : Program} {l : Launch} {e : Env} {R : Room} {s : State} {m : MethodId} {args : Array Value} {below : List Frame} {meth : Method} {c : Code} {Q : State → Prop} {D : va_G} {cy : Nat → ClassId} {b Lx : Nat} {xs : Nat → Int32}
theorem law_iJ : (q_wm (.methodLink "JobBoardLaw" 86 (r_mt 8).1) && q_wm (.instanceMethod (r_mt 8).1) && q_wm (.initialized (r_mt 8).1.cls) && q_wm (r_code r_mt 8) && q_ny (r_mt 8).1 (r_mt 8).1.cls 1 && Nat.ble (r_mt 8).2.2.1 30 && decide ((r_mt 8).1.name = "<init>") && decide ((r_mt 8).2.2.2 = none)) = true := by decide +kernel
theorem law_iM : (q_wm (.methodLink "JobBoardLaw" 91 (r_mt 9).1) && q_wm (.instanceMethod (r_mt 9).1) && q_wm (.initialized (r_mt 9).1.cls) && q_wm (r_code r_mt 9) && q_ny (r_mt 9).1 (r_mt 9).1.cls 1 && Nat.ble (r_mt 9).2.2.1 30 && decide ((r_mt 9).1.name = "<init>") && decide ((r_mt 9).2.2.2 = none)) = true := by decide +kernel
theorem law_nJ : q_wm (.classLink "JobBoardLaw" 8 (q_cl 0).1) = true ∧ q_wm (.instantiable (q_cl 0).1 (q_cl 0).2.2) = true ∧ q_wm (.initialized (q_cl 0).1) = true := by decide +kernel
theorem law_nM : q_wm (.classLink "JobBoardLaw" 89 (q_cl 9).1) = true ∧ q_wm (.instantiable (q_cl 9).1 (q_cl 9).2.2) = true ∧ q_wm (.initialized (q_cl 9).1) = true := by decide +kernel
theorem law_begin (B0 : q_B0 p l R s m c args D cy b Lx xs) {n : Nat} (h1 : 1 ≤ n) (h4 : n ≤ 4) (hn : r_cl (r_x0 Lx xs) = Int32.ofNat n)
    (kk : ∀ (H : Heap) (locs : List Loc) (ls : Array Slot), WJ D cy (q_adr s.heap.size b n) n (q_s0 n) H → va_S (r_A s.heap.size) s.heap H locs → lv_has ls 8 [(4, .int 1), (3, .ref (s.heap.size + (158 + 21 * n))), (2, .ref (s.heap.size + q_bj n)), (1, .ref s.heap.size), (0, .ref b)] → W p l e R s m args below meth c H locs (159 + 21 * n) (1336 + 86 * n) Q (F0 m 33 ls [])) : W p l e R s m args below meth c s.heap [] 0 0 Q (entryFrame m ([Value.ref b] : List Value).toArray 8) := by
  have B := B0
  obtain ⟨hx, hb, hml, hown, hts, hK, hN, hX, hbl, hL, hf, hlo, hR1, hR2⟩ := B0
  have hlJ := (r_cJ_len h1 h4).1
  have hlM := (r_cJ_len h1 h4).2
  have a0 : (q_cl 0).2.2 = 7 := rfl
  have a9 : (q_cl 9).2.2 = 37 := rfl
  have aj : (r_jc n).1 = 21 * n + 126 := rfl
  have ak : (r_jc n).2 = 86 * n + 580 := rfl
  have am : r_mc.1 = 30 := rfl
  have an : r_mc.2 = 711 := rfl
  have ab : q_bj n = 127 + 21 * n := rfl
  have ax : r_m0.length = 1 := rfl
  rw [lg_entry_eq]
  have he : lv_has _ 8 [(0, Value.ref b)] := lv_entry [Value.ref b] (n := 8) (by show 1 ≤ 8; decide)
  generalize ((lg_sl [Value.ref b] ++ List.replicate (8 - (lg_sl [Value.ref b]).length) Slot.unset).toArray) = ls0 at he ⊢
  refine law_new B (ob := 0) (idx := 8) (C := []) (by decide) law_nJ (by decide +kernel) (fun k q hq => by cases hq) va_S.rf rfl (by omega) (by omega) (fun H1 _ hP1 hS1 => ?_)
  refine lv_dup hx hb (by decide +kernel) rfl ?_
  refine lv_aload_n (k := 0) (i := 0) hx hb (by decide +kernel) rfl (lv_at he 0 rfl) ?_
  refine lv_iconst (n := 0) (v := 0) hx hb (by decide +kernel) rfl ?_
  refine law_cell B hS1 he.1 (by show 1 + (1 + 0) ≤ 8; decide) (by decide +kernel) (by omega) (by omega) (fun locs1 hS2 => ?_)
  refine law_init B (idx := 86) (k := 8) (d := 6) (mc := (r_jc n).1) (ms := (r_jc n).2) (h1 := s.heap.size) (σ := r_j0) (σ1 := r_cJ n) (Nat.le_refl _) (r_metJ h1 h4 hn) law_iJ (by decide) (by decide) rfl (by decide +kernel) hP1 hS2 he.1 (by show 1 + 0 ≤ 8; decide) (by omega) (by omega) (fun H2 locs2 hJ2 _ hS3 => ?_)
  refine lv_astore_n (k := 1) (i := 1) hx hb (by decide +kernel) rfl he (by decide) (lv' := [(1, .ref s.heap.size), (0, .ref b)]) rfl (fun ls1 he1 => ?_)
  refine law_new B (ob := 9) (idx := 89) (C := r_cJ n) (by decide) law_nM (by decide +kernel) hJ2 hS3 (by omega) (by omega) (by omega) (fun H3 hJ3 hP3 hS4 => ?_)
  refine lv_dup hx hb (by decide +kernel) rfl ?_
  refine lv_aload_n (k := 0) (i := 0) hx hb (by decide +kernel) rfl (lv_at he1 1 rfl) ?_
  refine lv_iconst (n := 0) (v := 0) hx hb (by decide +kernel) rfl ?_
  refine law_cell B hS4 he1.1 (by show 1 + (1 + 0) ≤ 8; decide) (by decide +kernel) (by omega) (by omega) (fun locs3 hS5 => ?_)
  refine law_init B (idx := 91) (k := 9) (d := 2) (mc := r_mc.1) (ms := r_mc.2) (h1 := s.heap.size + (r_cJ n).length) (σ := r_m0) (σ1 := r_cM n) (Nat.le_add_right _ _) (r_metM h1 h4 hn) law_iM (by decide) (by decide) (by omega) (by decide +kernel) hP3 hS5 he1.1 (by show 1 + 0 ≤ 8; decide) (by omega) (by omega) (fun H4 locs4 hM4 hk4 hS6 => ?_)
  have hJ4 : va_P D vcl (r_ws cy s.heap.size 0 (r_cJ n)) H4 := hJ3.kept (fun k x hx => hk4 x.1 (hJ3 k x hx).lt (by
    rw [r_ws_at] at hx
    obtain ⟨y, hy, rfl⟩ := Option.map_eq_some_iff.mp hx
    have := (List.getElem?_eq_some_iff.mp hy).1
    show s.heap.size + (0 + k) < _
    omega))
  refine lv_astore_n (k := 2) (i := 2) hx hb (by decide +kernel) rfl he1 (by decide) (lv' := [(2, .ref (s.heap.size + (r_cJ n).length)), (1, .ref s.heap.size), (0, .ref b)]) rfl (fun ls2 he2 => ?_)
  refine lv_iconst (n := 1) (v := 1) hx hb (by decide +kernel) rfl ?_
  have hz4 : s.heap.size + (158 + 21 * n) ≤ H4.size := by
    have hl : 30 < (r_cM n).length := by omega
    have h2 := (hM4 30 _ (by rw [r_ws_at, List.getElem?_eq_getElem hl]; rfl)).lt
    replace h2 : s.heap.size + (r_cJ n).length + (0 + 30) < H4.size := h2
    omega
  have hcl : 0 + 1 + (r_jc n).1 + 1 + r_mc.1 = 158 + 21 * n := by omega
  have hsl : 0 + (q_cl 0).2.2 + (r_jc n).2 + (q_cl 9).2.2 + r_mc.2 = 1335 + 86 * n := by omega
  rw [hcl, hsl]
  refine law_arr (rest := []) B hz4 (by decide +kernel) (by decide +kernel) hS6 (by omega) (by omega) (fun H5 hk5 hO hS7 => ?_)
  refine lv_astore_n (k := 3) (i := 3) hx hb (by decide +kernel) rfl he2 (by decide) (lv' := [(3, .ref (s.heap.size + (158 + 21 * n))), (2, .ref (s.heap.size + (r_cJ n).length)), (1, .ref s.heap.size), (0, .ref b)]) rfl (fun ls3 he3 => ?_)
  refine lv_iconst (n := 1) (v := 1) hx hb (by decide +kernel) rfl ?_
  refine lv_istore (i := 4) hx hb (by decide +kernel) he3 (by decide) (lv' := [(4, .int 1), (3, .ref (s.heap.size + (158 + 21 * n))), (2, .ref (s.heap.size + (r_cJ n).length)), (1, .ref s.heap.size), (0, .ref b)]) rfl (fun ls4 he4 => ?_)
  rw [hlJ] at he4 hM4
  rw [show 158 + 21 * n + 1 = 159 + 21 * n from by omega, show 1335 + 86 * n + 1 = 1336 + 86 * n from by omega]
  refine kk H5 locs4 ls4 (q_world h1 h4 (hJ4.kept (fun k x hx => ?_)) (hM4.kept (fun k x hx => ?_)) ?_) hS7 he4
  · refine hk5 x.1 ?_
    rw [r_ws_at] at hx
    obtain ⟨y, hy, rfl⟩ := Option.map_eq_some_iff.mp hx
    have := (List.getElem?_eq_some_iff.mp hy).1
    show s.heap.size + (0 + k) < _
    omega
  · refine hk5 x.1 ?_
    rw [r_ws_at] at hx
    obtain ⟨y, hy, rfl⟩ := Option.map_eq_some_iff.mp hx
    have := (List.getElem?_eq_some_iff.mp hy).1
    show s.heap.size + q_bj n + (0 + k) < _
    omega
  · rw [show s.heap.size + q_bj n + 31 = s.heap.size + (158 + 21 * n) from by omega]
    exact hO
end BE3
