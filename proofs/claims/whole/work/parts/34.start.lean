/-! The law's beginning, its instructions 0 to 31. Ours. -/
section BE2
variable {p : Program} {l : Launch} {e : Env} {R : Room} {s : State} {m : MethodId} {args : Array Value} {below : List Frame} {meth : Method} {c : Code} {Q : State → Prop} {D : va_G} {cy : Nat → ClassId} {b Lx : Nat} {xs : Nat → Int32}
theorem law_new (B0 : q_B0 p l R s m c args D cy b Lx xs) {H : Heap} {locs : List Loc} {ls : Array Slot} {rest : List Value} {cells slots pc ob idx : Nat} {C : CL} (b5 : ob < 10) (hw : q_wm (.classLink "JobBoardLaw" idx (q_cl ob).1) = true ∧ q_wm (.instantiable (q_cl ob).1 (q_cl ob).2.2) = true ∧ q_wm (.initialized (q_cl ob).1) = true) (hdg : decode code pc = .ok (.new idx, 3)) (hP : va_P D vcl (r_ws cy s.heap.size 0 C) H) (hS : va_S (r_A s.heap.size) s.heap H locs) (hc : cells = C.length) (hcc : cells + 1 ≤ R.cells) (hss : slots + (q_cl ob).2.2 ≤ R.slots)
    (kk : ∀ (H1 : Heap), va_P D vcl (r_ws cy s.heap.size 0 C) H1 → va_P D vcl (r_ws cy (s.heap.size + C.length) 0 [.inl (ob, r_dv ob)]) H1 → va_S (r_A s.heap.size) s.heap H1 locs → W p l e R s m args below meth c H1 locs (cells + 1) (slots + (q_cl ob).2.2) Q (F0 m (pc + 3) ls (.ref (s.heap.size + C.length) :: rest))) : W p l e R s m args below meth c H locs cells slots Q (F0 m pc ls rest) := by
  obtain ⟨hx, hb, hml, hown, hts, hK, hN, hX, hbl, hL, hf, hlo, -, -⟩ := B0
  have hcl := r_clN ob b5
  obtain ⟨ty, hty, hdf⟩ := r_cls ob b5
  refine va_new (Ts := gt) (fs := r_dvv ob) hx hb hts (vc_ok ob _ hcl).1 ty hty hown (hts _ (q_wm_in hw.1)) (hts _ (q_wm_in hw.2.1)) (hts _ (q_wm_in hw.2.2)) hK hP (r_D C) hS (fun q hq => hq) hcl hdf hcc hss hdg (fun q H1 hP1 hD1 hS1 => ?_)
  intro T hT X
  have hsz := X.heapSize
  rw [hT] at hsz
  have hq := r_fresh hP1 hD1 (by omega)
  subst hq
  refine kk H1 (fun j x hx => ?_) (fun j x hx => ?_) hS1 T hT X
  · have hj : j < C.length := by
      have := (List.getElem?_eq_some_iff.mp hx).1
      rw [r_ws_len] at this
      exact this
    exact hP1 j x (by rw [List.getElem?_append_left (by rw [r_ws_len]; exact hj)]; exact hx)
  · have hj : j < 1 := (List.getElem?_eq_some_iff.mp hx).1
    obtain rfl : j = 0 := by omega
    have h9 := hP1 C.length (s.heap.size + C.length, .inr (ob, r_dvv ob)) (by
      rw [List.getElem?_append_right (by rw [r_ws_len]; exact Nat.le_refl _), r_ws_len, Nat.sub_self]
      rfl)
    have hx' : x = (s.heap.size + C.length + 0, .inr (ob, (r_dv ob).map (q_tv (r_ad (s.heap.size + C.length))))) := by
      cases hx
      rfl
    rw [hx', r_dv_h ob b5]
    exact h9
theorem law_init (B0 : q_B0 p l R s m c args D cy b Lx xs) {H : Heap} {locs : List Loc} {ls : Array Slot} {rest : List Value} {cells slots pc idx k h1 d mc ms : Nat} {x : Int32} {σ σ1 : CL} (h01 : s.heap.size ≤ h1) (hM : r_CT l r_mt (r_rm d (mc, ms)) D cy h1 mc ms k [.inr (.inr (some (0, 0))), .inl x] σ σ1)
    (ho : (q_wm (.methodLink "JobBoardLaw" idx (r_mt k).1) && q_wm (.instanceMethod (r_mt k).1) && q_wm (.initialized (r_mt k).1.cls) && q_wm (r_code r_mt k) && q_ny (r_mt k).1 (r_mt k).1.cls 1 && Nat.ble (r_mt k).2.2.1 30 && decide ((r_mt k).1.name = "<init>") && decide ((r_mt k).2.2.2 = none)) = true) (hd : d ≤ 6) (hσ : 0 < σ.length) (hsz : s.heap.size + cells = h1 + σ.length) (hdg : decode code pc = .ok (.invokespecial idx, 3)) (hP : va_P D vcl (r_ws cy h1 0 σ) H) (hS : va_S (r_A s.heap.size) s.heap H locs) (hls : ls.size = 8) (hro : (rest.map fun v => v.category).sum ≤ 8) (hcc : cells + mc ≤ R.cells) (hss : slots + ms ≤ R.slots)
    (kk : ∀ (H1 : Heap) (locs1 : List Loc), va_P D vcl (r_ws cy h1 0 σ1) H1 → (∀ q, q < H.size → q < h1 → H1[q]? = H[q]?) → va_S (r_A s.heap.size) s.heap H1 locs1 → W p l e R s m args below meth c H1 locs1 (cells + mc) (slots + ms) Q (F0 m (pc + 3) ls rest)) : W p l e R s m args below meth c H locs cells slots Q (F0 m pc ls (.int x :: .ref h1 :: rest)) := by
  obtain ⟨hx, hb, hml, hown, hts, hK, hN, hX, hbl, hL, hf, hlo, -, -⟩ := B0
  simp only [Bool.and_eq_true] at ho
  obtain ⟨⟨⟨⟨⟨⟨⟨o2, o3⟩, o5⟩, o6⟩, o7⟩, o8⟩, o9⟩, o11⟩ := ho
  have hny := of_decide_eq_true o7
  have h8 := Nat.le_of_ble_eq_true o8
  intro T hT X
  have hz0 := X.heapSize
  rw [hT] at hz0
  have hsize : H.size = h1 + σ.length := by
    have hl : σ.length - 1 < σ.length := by omega
    have h2 := (hP (σ.length - 1) _ (by rw [r_ws_at, List.getElem?_eq_getElem hl]; rfl)).lt
    replace h2 : h1 + (0 + (σ.length - 1)) < H.size := h2
    omega
  have hW := va_runI (As := [.int x]) (rest := rest) (b := h1) (g := F0 m pc ls (.int x :: .ref h1 :: rest)) (Ts := gt) (locs := locs) (cells := cells) (slots := slots) (below := below) (e := e) (meth := meth) (H := H) ⟨hx, hb, hml, hown, hts⟩ hM ⟨callB_of (bytes := (r_mt k).2.1) (maxL := (r_mt k).2.2.1) (index := idx) 1 hts (fun w hw => ⟨by rcases List.mem_cons.mp hw with rfl | hw; exact q_wm_in o6; exact hw, good_of_word (gt_good w (by rcases List.mem_cons.mp hw with rfl | hw; exact q_wm_in o6; exact hw))⟩) (by rw [← of_decide_eq_true o11]; rfl) rfl rfl (hts _ (q_wm_in o5)) (hts _ (q_wm_in o2)) hny.2 ⟨by show d + 1 + 1 ≤ R.frames; omega, by show 8 + ((r_mt k).2.2.1 + 11) + (49 * d + 60) ≤ R.locals; omega⟩, of_decide_eq_true o9, hts _ (q_wm_in o3)⟩ ⟨r_bl, fun U hU hw => ⟨rfl, by rw [hU]; exact hP, by rw [hU]; exact hsize, va_K.moved hw.alike hK, r_Nw.warm hw hN⟩⟩ rfl rfl hls rfl (lv_room hro) hdg ⟨hcc, hss⟩
  exact q_go2 h01 hW hS kk T hT X
theorem vz_1 (cA : ClassId) : vp_cell cA (1, .inr (.inl (fun _ => 0))) = arrV cA 1 (fun _ => defaultValue (newarray.typeOf .long)) := rfl
theorem law_arr (B0 : q_B0 p l R s m c args D cy b Lx xs) {H : Heap} {locs : List Loc} {ls : Array Slot} {rest : List Value} {cells slots pc : Nat} (hz : s.heap.size + cells ≤ H.size) (hw : q_wm (.arrayClass (newarray.typeOf .long)) = true) (hdg : decode code pc = .ok (.newarray .long, 2)) (hS : va_S (r_A s.heap.size) s.heap H locs) (hcc : cells + 1 ≤ R.cells) (hss : slots + 1 ≤ R.slots)
    (kk : ∀ (H1 : Heap), (∀ q, q < s.heap.size + cells → H1[q]? = H[q]?) → va_at D vcl (s.heap.size + cells, .inl (cy 1, 1, .inr (.inl (fun _ => 0)))) H1 → va_S (r_A s.heap.size) s.heap H1 locs → W p l e R s m args below meth c H1 locs (cells + 1) (slots + 1) Q (F0 m (pc + 2) ls (.ref (s.heap.size + cells) :: rest))) : W p l e R s m args below meth c H locs cells slots Q (F0 m pc ls (.int 1 :: rest)) := by
  obtain ⟨hx, hb, hml, hown, hts, hK, hN, hX, hbl, hL, hf, hlo, -, -⟩ := B0
  intro T0 hT0 X0
  have hz0 := X0.heapSize
  rw [hT0] at hz0
  have hsz : H.size = s.heap.size + cells := by omega
  have hn : ¬ (1 : Int32) < 0 := by decide
  have hN : (1 : Int32).toNatClampNeg = 1 := rfl
  have hB : 1 * componentBytes (newarray.typeOf .long) ≤ 536870912 := by show 1 * 8 ≤ 536870912; decide
  have hA := hts _ (q_wm_in hw)
  refine va_newaK (g := F0 m pc ls (.int 1 :: rest)) (N := 1) (n := 1) (rest := rest) hx hb hA rfl hdg rfl hn hN hB hcc hss hsz (fun H1 cA e1 z1 o1 hAr hNm => ?_) T0 hT0 X0
  have hR : va_RA s cA .long := hNm
  have h1 : cA = cy 1 := r_cy (t := 1) hK rfl hR
  subst h1
  have e2 : va_at D vcl (s.heap.size + cells, .inl (cy 1, 1, .inr (.inl (fun _ => 0)))) H1 := by
    show H1[s.heap.size + cells]? = some (vp_cell (cy 1) (1, .inr (.inl (fun _ => 0))))
    rw [e1, vz_1]
  exact kk H1 o1 e2 ⟨by have := hS.1; omega, fun q g1 g2 => (o1 q (by omega)).trans (hS.2.1 q g1 g2), hS.2.2⟩
end BE2
