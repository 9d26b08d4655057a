/-! The law from its entry to its end. Ours. -/
section LST
variable {p : Program} {l : Launch} {e : Env} {R : Room} {s : State} {m : MethodId} {args : Array Value} {below : List Frame} {meth : Method} {c : Code} {Q : State → Prop} {D : va_G} {cy : Nat → ClassId} {b Lx : Nat} {xs : Nat → Int32}
theorem q_mt141 : q_mt 141 = (x, code, 8, ret) := rfl
theorem law_L0 {n : Nat} (h1 : 1 ≤ n) (h4 : n ≤ 4) : ∀ a v, q_L [(0, .inr (.inr (some (63, 0)))), (1, .inr (.inr (some (0, 0)))), (2, .inr (.inr (some (24, 0)))), (3, .inr (.inr (some (23, 0)))), (4, .inl 1)] a = some v → q_ok n v = true := by
  intro a v h
  have h5 : ∀ k, k = 0 ∨ k = 24 ∨ k = 23 → q_ok n (.inr (.inr (some (k, 0)))) = true := by
    match n, h1, h4 with
    | 1, _, _ => rintro k (rfl | rfl | rfl) <;> rfl
    | 2, _, _ => rintro k (rfl | rfl | rfl) <;> rfl
    | 3, _, _ => rintro k (rfl | rfl | rfl) <;> rfl
    | 4, _, _ => rintro k (rfl | rfl | rfl) <;> rfl
  match a, h with
  | 0, h => cases h; rfl
  | 1, h => cases h; exact h5 _ (Or.inl rfl)
  | 2, h => cases h; exact h5 _ (Or.inr (Or.inl rfl))
  | 3, h => cases h; exact h5 _ (Or.inr (Or.inr rfl))
  | 4, h => cases h; rfl
  | (a + 5), h => cases h
theorem law_start (B0 : q_B0 p l R s m c args D cy b Lx xs) (hret : meth.sig.returnType = ret) (hlk : meth.locks = false) (hTh : q_Th (r_A s.heap.size) s) (hTn : q_Tn s) (htr : ∀ e, l.admits e → e.platform.stackTraces = false) (hpr : ∀ k pc o, q_pr k pc = some o → q_okB q_mt k pc o = true) (hpl : ∀ k, plainName (q_mt k).1.cls = true) (hC : 627624 ≤ R.cells) (hS : 7213199 ≤ R.slots)
    (hgo : ∀ n, 1 ≤ n → n ≤ 4 → ∃ Inv : Nat → J → Prop, (∀ t σ, Inv (t + 1) σ → Inv t σ) ∧ Inv 512 (q_s0 n) ∧ ∀ t, t < 512 → q_go20 n (Inv (t + 1)) (Inv t))
    (kk : ∀ (H : Heap) (locs : List Loc) (ls : Array Slot) (cells slots : Nat), cells ≤ 627624 → slots ≤ 7213199 → va_S (r_A s.heap.size) s.heap H locs → W p l e R s m args below meth c H locs cells slots Q (F0 m 1525 ls [])) : W p l e R s m args below meth c s.heap [] 0 0 Q (entryFrame m ([Value.ref b] : List Value).toArray 8) := by
  have B := B0
  obtain ⟨hx, hb, hml, hown, hts, hK, hN, hX, hbl, hL, hf, hlo, hR1, hR2⟩ := B0
  obtain ⟨n, h1, h4, hn⟩ := r_cl_n (r_x0 Lx xs)
  obtain ⟨Inv, hmo, hI0, hG⟩ := hgo n h1 h4
  refine law_begin B h1 h4 hn (fun H locs ls hW hSa hls => ?_)
  have cx : q_LC p l s m meth c args D cy n (q_adr s.heap.size b n) (r_A s.heap.size) R 0 0 b Lx xs := ⟨⟨hx, by rw [q_mt141]; exact hb, by rw [q_mt141]; exact hml, by rw [q_mt141]; exact hown, hts, hK, by rw [q_mt141]; exact hret, hlk, q_world_D h1 h4, by omega, by omega, Nat.zero_le _, Nat.zero_le _⟩, hX, hbl, fun h => by
      replace h : s.heap.size ≤ b := h
      omega, fun _ => rfl, hTh, hTn, htr, hf, hlo, hpr, hpl⟩
  have hV := law_loop (e := e) (below := below) (Q := Q) Inv 512 hmo (C1 := 627624) (S1 := 7213199) cx hL hG hC hS (fun cells slots σ hc hs H locs ls _ hSa _ _ _ => kk H locs ls cells slots hc hs hSa) 512 1 (159 + 21 * n) (1336 + 86 * n) 1 (q_s0 n) rfl (by omega) (by decide) (by omega) (by omega) (Nat.le_refl _) hI0
  refine hV H locs ls hW hSa ?_ (law_L0 h1 h4) trivial
  rw [q_mt141]
  refine ⟨hls.1, hls.2.1, fun q hq => ?_⟩
  replace hq : q ∈ [(0, Value.ref b), (1, Value.ref (s.heap.size + 0)), (2, Value.ref (s.heap.size + (127 + 21 * n + 0))), (3, Value.ref (s.heap.size + (158 + 21 * n))), (4, Value.int 1)] := hq
  simp only [List.mem_cons, List.not_mem_nil, or_false] at hq
  rcases hq with rfl | rfl | rfl | rfl | rfl
  · exact hls.2.2 (0, .ref b) (by simp)
  · exact hls.2.2 (1, .ref s.heap.size) (by simp)
  · exact hls.2.2 (2, .ref (s.heap.size + q_bj n)) (by simp)
  · exact hls.2.2 (3, .ref (s.heap.size + (158 + 21 * n))) (by simp)
  · exact hls.2.2 (4, .int 1) (by simp)
end LST
