/-! The world behind the constructors: which new cell is which name, what it holds. Ours. -/
/-- the class's cells and their number -/
def q_bj (n : Nat) : Nat := 127 + 21 * n
/-- a name's cell, counted from the first new one -/
def q_code (n k i : Nat) : Nat := match k with
  | 0 => 0
  | 1 => 1
  | 2 => 2 + 21 * n
  | 3 => 3 + 21 * n
  | 4 => 4 + 21 * n + 4 * i
  | 5 => bif Nat.blt i 20 then 5 + 21 * n + 4 * i else 3 + 21 * (i - 20)
  | 6 => bif Nat.blt i 20 then 6 + 21 * n + 4 * i else 4 + 21 * (i - 20)
  | 7 => bif Nat.blt i 20 then 7 + 21 * n + 4 * i else 5 + 21 * (i - 20)
  | 8 => bif Nat.blt i 6 then 88 + 21 * n + 6 * i else 11 + 21 * ((i - 6) / 3) + 4 * ((i - 6) % 3)
  | 9 => bif Nat.blt i 6 then 89 + 21 * n + 6 * i else 12 + 21 * ((i - 6) / 3) + 4 * ((i - 6) % 3)
  | 10 => bif Nat.blt i 6 then 90 + 21 * n + 6 * i else 13 + 21 * ((i - 6) / 3) + 4 * ((i - 6) % 3)
  | 11 => bif Nat.blt i 6 then 91 + 21 * n + 6 * i else 14 + 21 * ((i - 6) / 3) + 4 * ((i - 6) % 3)
  | 12 => bif Nat.beq i 0 then 123 + 21 * n else 7 + 21 * (i - 1)
  | 13 => bif Nat.beq i 0 then 124 + 21 * n else 8 + 21 * (i - 1)
  | 14 => bif Nat.beq i 0 then 125 + 21 * n else 9 + 21 * (i - 1)
  | 15 => bif Nat.beq i 0 then 126 + 21 * n else 10 + 21 * (i - 1)
  | 16 => 2 + 21 * i
  | 17 => 6 + 21 * i
  | 18 => 87 + 21 * n + 6 * i
  | 19 => 92 + 21 * n + 6 * i
  | 20 => 86 + 21 * n
  | 21 => 84 + 21 * n
  | 22 => 85 + 21 * n
  | 23 => 158 + 21 * n
  | k => 127 + 21 * n + (k - 24)
def q_adr (h0 b n : Nat) : Nat → Nat → Nat := fun k i => bif Nat.beq k 63 then b else h0 + q_code n k i
/-- the state at the beginning -/
def q_s0 (n : Nat) : J := (fun k f i => bif Nat.beq k 16 && Nat.beq f 0 then Int32.ofNat i else bif Nat.beq k 24 && Nat.beq f 13 then Int32.ofNat n else 0,
  fun k _ j => bif Nat.beq k 13 || Nat.beq k 46 || Nat.beq k 47 then -1 else bif Nat.beq k 52 && Nat.blt j 4 then -1 else 0,
  fun _ _ _ => 0,
  fun k i j => bif Nat.beq k 17 then 6 + 3 * i + j else j)
/-- where a name's world begins -/
def q_base (n k : Nat) : Nat := bif Nat.blt k 23 then 0 else q_bj n
/-- what the builder must have made for a name -/
def q_xf (n : Nat) (σ : J) (k i : Nat) : Nat → List (Nat × Nat × Nat) → List PV
  | _, [] => []
  | f, d :: r => (bif Nat.blt d.1 2 then .inl (σ.1 k f i) else .inr (.inr (some (0, q_code n d.2.1 (q_ix d.2.2 i) - q_base n k)))) :: q_xf n σ k i (f + 1) r
def q_xr (n : Nat) (σ : J) (k i t ek j : Nat) : PV := match t with
  | 0 => .inl (σ.2.1 k i j)
  | 1 => .inr (.inl (σ.2.2.1 k i j))
  | 2 => .inl (σ.2.1 k i j)
  | _ => .inr (.inr (some (0, q_code n ek (σ.2.2.2 k i j) - q_base n k)))
def q_xp (n : Nat) (σ : J) (k i : Nat) : PE := match q_ko k with
  | some w => .inl (w.1, q_xf n σ k i 0 w.2)
  | none => match q_ka k with
    | some w => .inr (w.1, (List.range (q_nn n w.2.2)).map (q_xr n σ k i w.1 w.2.1))
    | none => .inr (0, [])
def q_pvb (a b : PV) : Bool := match a, b with
  | .inl x, .inl y => decide (x = y)
  | .inr (.inl x), .inr (.inl y) => decide (x = y)
  | .inr (.inr x), .inr (.inr y) => decide (x = y)
  | _, _ => false
def q_plb : List PV → List PV → Bool
  | [], [] => true
  | a :: r, b :: t => q_pvb a b && q_plb r t
  | _, _ => false
def q_oeb (a : Option PE) (b : PE) : Bool := match a, b with
  | some (.inl x), .inl y => Nat.beq x.1 y.1 && q_plb x.2 y.2
  | some (.inr x), .inr y => Nat.beq x.1 y.1 && q_plb x.2 y.2
  | _, _ => false
theorem q_pvb_eq {a b : PV} (h : q_pvb a b = true) : a = b := by
  match a, b, h with
  | .inl x, .inl y, h => rw [of_decide_eq_true (p := x = y) h]
  | .inr (.inl x), .inr (.inl y), h => rw [of_decide_eq_true (p := x = y) h]
  | .inr (.inr x), .inr (.inr y), h => rw [of_decide_eq_true (p := x = y) h]
theorem q_plb_eq : ∀ {a b : List PV}, q_plb a b = true → a = b := by
  intro a
  induction a with
  | nil =>
    intro b h
    cases b with
    | nil => rfl
    | cons _ _ => cases h
  | cons x r ih =>
    intro b h
    cases b with
    | nil => cases h
    | cons y t =>
      replace h : (q_pvb x y && q_plb r t) = true := h
      rw [Bool.and_eq_true] at h
      rw [q_pvb_eq h.1, ih h.2]
theorem q_oeb_eq {a : Option PE} {b : PE} (h : q_oeb a b = true) : a = some b := by
  match a, b, h with
  | some (.inl x), .inl y, h =>
    replace h : (Nat.beq x.1 y.1 && q_plb x.2 y.2) = true := h
    rw [Bool.and_eq_true] at h
    obtain ⟨x1, x2⟩ := x
    obtain ⟨y1, y2⟩ := y
    obtain rfl : x1 = y1 := Nat.eq_of_beq_eq_true h.1
    obtain rfl : x2 = y2 := q_plb_eq h.2
    rfl
  | some (.inr x), .inr y, h =>
    replace h : (Nat.beq x.1 y.1 && q_plb x.2 y.2) = true := h
    rw [Bool.and_eq_true] at h
    obtain ⟨x1, x2⟩ := x
    obtain ⟨y1, y2⟩ := y
    obtain rfl : x1 = y1 := Nat.eq_of_beq_eq_true h.1
    obtain rfl : x2 = y2 := q_plb_eq h.2
    rfl
/-- which names the class's cells have, in their order -/
def q_nms (n : Nat) : List (Nat × Nat) := [(0, 0), (1, 0)] ++ ((List.range n).flatMap fun i => [(16, i), (5, 20 + i), (6, 20 + i), (7, 20 + i), (17, i), (12, i + 1), (13, i + 1), (14, i + 1), (15, i + 1)] ++ ((List.range 3).flatMap fun j => [(8, 6 + 3 * i + j), (9, 6 + 3 * i + j), (10, 6 + 3 * i + j), (11, 6 + 3 * i + j)])) ++ [(2, 0), (3, 0)] ++ ((List.range 20).flatMap fun t => [(4, t), (5, t), (6, t), (7, t)]) ++ [(21, 0), (22, 0), (20, 0)] ++ ((List.range 6).flatMap fun o => [(18, o), (8, o), (9, o), (10, o), (11, o), (19, o)]) ++ [(12, 0), (13, 0), (14, 0), (15, 0)]
def q_clb : CL → CL → Bool
  | [], [] => true
  | a :: r, b :: t => q_oeb (some a) b && q_clb r t
  | _, _ => false
theorem q_clb_eq : ∀ {a b : CL}, q_clb a b = true → a = b := by
  intro a
  induction a with
  | nil =>
    intro b h
    cases b with
    | nil => rfl
    | cons _ _ => cases h
  | cons x r ih =>
    intro b h
    cases b with
    | nil => cases h
    | cons y t =>
      replace h : (q_oeb (some x) y && q_clb r t) = true := h
      rw [Bool.and_eq_true] at h
      rw [Option.some.inj (q_oeb_eq h.1), ih h.2]
theorem q_chJ1 : q_clb (r_cJ 1) ((q_nms 1).map fun x => q_xp 1 (q_s0 1) x.1 x.2) = true := by decide +kernel
theorem q_chJ2 : q_clb (r_cJ 2) ((q_nms 2).map fun x => q_xp 2 (q_s0 2) x.1 x.2) = true := by decide +kernel
theorem q_chJ3 : q_clb (r_cJ 3) ((q_nms 3).map fun x => q_xp 3 (q_s0 3) x.1 x.2) = true := by decide +kernel
theorem q_chJ4 : q_clb (r_cJ 4) ((q_nms 4).map fun x => q_xp 4 (q_s0 4) x.1 x.2) = true := by decide +kernel
theorem q_chJ (n : Nat) (h : n ∈ [1, 2, 3, 4]) : q_clb (r_cJ n) ((q_nms n).map fun x => q_xp n (q_s0 n) x.1 x.2) = true := by
  simp only [List.mem_cons, List.not_mem_nil, or_false] at h
  rcases h with rfl | rfl | rfl | rfl
  · exact q_chJ1
  · exact q_chJ2
  · exact q_chJ3
  · exact q_chJ4
theorem q_chM : ∀ n ∈ [1, 2, 3, 4], q_clb (r_cM n) ((List.range 31).map (fun c => q_xp n (q_s0 n) (24 + c) 0)) = true := by decide +kernel
theorem q_nms_ok : ∀ n ∈ [1, 2, 3, 4], ∀ x ∈ idj n, x.1 < 23 → (q_nms n)[q_code n x.1 x.2]? = some x := by decide +kernel
theorem q_nms_len : ∀ n ∈ [1, 2, 3, 4], (q_nms n).length = q_bj n := by decide +kernel
theorem q_nd_ok : ∀ n ∈ [1, 2, 3, 4], ((idj n).map fun x => q_code n x.1 x.2).Nodup := by decide +kernel
theorem q_rg_ok : ∀ n ∈ [1, 2, 3, 4], ∀ x ∈ idj n, 23 < x.1 → q_code n x.1 x.2 = q_bj n + (x.1 - 24) ∧ x.1 < 55 ∧ x.2 = 0 := by decide +kernel
def q_chf (n k i : Nat) : List (Nat × Nat × Nat) → Bool
  | [] => true
  | d :: r => (Nat.blt d.1 2 || Nat.ble (q_base n k) (q_code n d.2.1 (q_ix d.2.2 i)) && !(Nat.beq d.2.1 63)) && q_chf n k i r
def q_chr (n : Nat) : Bool := (idj n).all fun x => match q_ko x.1 with
  | some w => q_chf n x.1 x.2 w.2
  | none => match q_ka x.1 with
    | some w => Nat.blt w.1 3 || ((List.range (q_nn n w.2.2)).all fun j => Nat.ble (q_base n x.1) (q_code n w.2.1 ((q_s0 n).2.2.2 x.1 x.2 j)) && !(Nat.beq w.2.1 63))
    | none => true
theorem q_chr_ok : ∀ n ∈ [1, 2, 3, 4], q_chr n = true := by decide +kernel
theorem q_kd_ok : ∀ n ∈ [1, 2, 3, 4], ∀ x ∈ idj n, x.1 ≠ 63 ∧ ((q_ko x.1).isSome = true ∨ (q_ka x.1).isSome = true) ∧ (x.1 = 23 → x.2 = 0) := by decide +kernel
theorem q_n4 {n : Nat} (h1 : 1 ≤ n) (h4 : n ≤ 4) : n ∈ [1, 2, 3, 4] := by
  match n, h1, h4 with
  | 1, _, _ => decide
  | 2, _, _ => decide
  | 3, _, _ => decide
  | 4, _, _ => decide
theorem q_world_D {n h0 b : Nat} (h1 : 1 ≤ n) (h4 : n ≤ 4) : ∀ cn, va_D (r_A h0) (wl (idj n) (q_adr h0 b n) cn) := by
  intro cn
  have hk := q_kd_ok n (q_n4 h1 h4)
  have ha : ∀ x ∈ idj n, q_adr h0 b n x.1 x.2 = h0 + q_code n x.1 x.2 := fun x hx => by
    have h63 := (hk x hx).1
    unfold q_adr
    rw [show Nat.beq x.1 63 = false from by
      cases hb : Nat.beq x.1 63 with
      | true => exact absurd (Nat.eq_of_beq_eq_true hb) h63
      | false => rfl]
    rfl
  refine ⟨fun i j p q hp hq he => ?_, fun k q hq => ?_⟩
  · unfold wl at hp hq
    rw [List.getElem?_map] at hp hq
    obtain ⟨x, hx, rfl⟩ := Option.map_eq_some_iff.mp hp
    obtain ⟨y, hy, rfl⟩ := Option.map_eq_some_iff.mp hq
    replace he : q_adr h0 b n x.1 x.2 = q_adr h0 b n y.1 y.2 := he
    rw [ha x (List.mem_of_getElem? hx), ha y (List.mem_of_getElem? hy)] at he
    have hnd := q_nd_ok n (q_n4 h1 h4)
    have hi : i < (idj n).length := (List.getElem?_eq_some_iff.mp hx).1
    have hj : j < (idj n).length := (List.getElem?_eq_some_iff.mp hy).1
    refine (List.getElem?_inj (by rw [List.length_map]; exact hi) hnd).mp ?_
    rw [List.getElem?_map, List.getElem?_map, hx, hy]
    show some (q_code n x.1 x.2) = some (q_code n y.1 y.2)
    congr 1
    omega
  · unfold wl at hq
    rw [List.getElem?_map] at hq
    obtain ⟨x, hx, rfl⟩ := Option.map_eq_some_iff.mp hq
    show h0 ≤ q_adr h0 b n x.1 x.2
    rw [ha x (List.mem_of_getElem? hx)]
    exact Nat.le_add_right _ _
theorem q_arr_ext {cA : ClassId} {n : Nat} {f g : Nat → Value} (h : ∀ j, j < n → f j = g j) : arrV cA n f = arrV cA n g := by
  unfold arrV
  congr 1
  apply Array.ext
  · simp
  · intro i h1 h2
    simp at h1
    simp [h i h1]
theorem q_range_at {β : Type} {d : β} {f : Nat → β} {n j : Nat} (hj : j < n) : ((List.range n).map f).getD j d = f j := by
  rw [List.getD_eq_getElem?_getD, List.getElem?_map, List.getElem?_range hj]
  rfl
theorem q_xf_eq {n h0 b k i : Nat} {σ : J} (l : List (Nat × Nat × Nat)) : ∀ f, q_chf n k i l = true → (q_xf n σ k i f l).map (q_tv (r_ad (h0 + q_base n k))) = q_fs (q_adr h0 b n) σ k i f l := by
  induction l with
  | nil => intro f _; rfl
  | cons d r ih =>
    intro f hc
    replace hc : ((Nat.blt d.1 2 || Nat.ble (q_base n k) (q_code n d.2.1 (q_ix d.2.2 i)) && !(Nat.beq d.2.1 63)) && q_chf n k i r) = true := hc
    rw [Bool.and_eq_true] at hc
    show q_tv _ (bif Nat.blt d.1 2 then _ else _) :: (q_xf n σ k i (f + 1) r).map _ = q_tv _ (q_fv σ k i f d) :: q_fs (q_adr h0 b n) σ k i (f + 1) r
    rw [ih (f + 1) hc.2]
    congr 1
    unfold q_fv
    cases hd : Nat.blt d.1 2 with
    | true => rfl
    | false =>
      have h2 := hc.1
      rw [hd, Bool.false_or, Bool.and_eq_true] at h2
      have h3 := Nat.le_of_ble_eq_true h2.1
      have h4 : Nat.beq d.2.1 63 = false := by
        have := h2.2
        simpa using this
      show Value.ref (h0 + q_base n k + (q_code n d.2.1 (q_ix d.2.2 i) - q_base n k)) = Value.ref (q_adr h0 b n d.2.1 (q_ix d.2.2 i))
      unfold q_adr
      rw [h4]
      show _ = Value.ref (h0 + q_code n d.2.1 (q_ix d.2.2 i))
      rw [show h0 + q_base n k + (q_code n d.2.1 (q_ix d.2.2 i) - q_base n k) = h0 + q_code n d.2.1 (q_ix d.2.2 i) from by omega]
/-- a builder's cell is the name's cell -/
theorem q_cell {D : va_G} {cy : Nat → ClassId} {n h0 b k i q : Nat} {H : Heap} (h1 : 1 ≤ n) (h4 : n ≤ 4) (hx : (k, i) ∈ idj n) (h : va_at D vcl (q, r_e cy (h0 + q_base n k) (q_xp n (q_s0 n) k i)) H) : va_at D vcl (q, cj cy (q_adr h0 b n) n (q_s0 n) k i) H := by
  have hc := List.all_eq_true.mp (q_chr_ok n (q_n4 h1 h4)) (k, i) hx
  have hk := (q_kd_ok n (q_n4 h1 h4) (k, i) hx).2.1
  unfold q_xp at h
  unfold cj
  cases ho : q_ko k with
  | some w =>
    rw [ho] at h hc
    replace hc : q_chf n k i w.2 = true := hc
    replace h : va_at D vcl (q, .inr (w.1, (q_xf n (q_s0 n) k i 0 w.2).map (q_tv (r_ad (h0 + q_base n k))))) H := h
    rw [q_xf_eq w.2 0 hc] at h
    exact h
  | none =>
    rw [ho] at h hc
    cases ha : q_ka k with
    | none =>
      rcases hk with hk | hk
      · rw [show q_ko (k, i).1 = q_ko k from rfl, ho] at hk; cases hk
      · rw [show q_ka (k, i).1 = q_ka k from rfl, ha] at hk; cases hk
    | some w =>
      rw [ha] at h hc
      obtain ⟨t, ek, ln⟩ := w
      replace hc : (Nat.blt t 3 || ((List.range (q_nn n ln)).all fun j => Nat.ble (q_base n k) (q_code n ek ((q_s0 n).2.2.2 k i j)) && !(Nat.beq ek 63))) = true := hc
      replace h : H[q]? = some (vp_cell (cy t) (((List.range (q_nn n ln)).map (q_xr n (q_s0 n) k i t ek)).length, r_row (h0 + q_base n k) t ((List.range (q_nn n ln)).map (q_xr n (q_s0 n) k i t ek)))) := h
      show H[q]? = some (vp_cell (cy t) (q_nn n ln, q_ar (q_adr h0 b n) (q_s0 n) t ek k i))
      rw [h]
      congr 1
      rw [List.length_map, List.length_range]
      match t, hc with
      | 0, _ => exact q_arr_ext fun j hj => by show Value.int (r_i (((List.range (q_nn n ln)).map (q_xr n (q_s0 n) k i 0 ek)).getD j (.inl 0))) = _; rw [q_range_at hj]; try rfl
      | 1, _ => exact q_arr_ext fun j hj => by show Value.long (r_l (((List.range (q_nn n ln)).map (q_xr n (q_s0 n) k i 1 ek)).getD j (.inl 0))) = _; rw [q_range_at hj]; try rfl
      | 2, _ => exact q_arr_ext fun j hj => by show Value.int (r_i (((List.range (q_nn n ln)).map (q_xr n (q_s0 n) k i 2 ek)).getD j (.inl 0))) = _; rw [q_range_at hj]; try rfl
      | t + 3, hc =>
        have hc2 : ((List.range (q_nn n ln)).all fun j => Nat.ble (q_base n k) (q_code n ek ((q_s0 n).2.2.2 k i j)) && !(Nat.beq ek 63)) = true := by
          have h3 : Nat.blt (t + 3) 3 = false := by
            cases hb : Nat.blt (t + 3) 3 with
            | true => exact absurd (Nat.blt_eq.mp hb) (by omega)
            | false => rfl
          rw [h3, Bool.false_or] at hc
          exact hc
        exact q_arr_ext fun j hj => by
          show va_rf (r_r (h0 + q_base n k) (((List.range (q_nn n ln)).map (q_xr n (q_s0 n) k i (t + 3) ek)).getD j (.inl 0))) = va_rf (some (q_adr h0 b n ek ((q_s0 n).2.2.2 k i j)))
          have h5 := List.all_eq_true.mp hc2 j (List.mem_range.mpr hj)
          rw [Bool.and_eq_true] at h5
          have h6 := Nat.le_of_ble_eq_true h5.1
          have h7 : Nat.beq ek 63 = false := by
            have := h5.2
            simpa using this
          rw [q_range_at hj]
          show va_rf (some (h0 + q_base n k + (q_code n ek ((q_s0 n).2.2.2 k i j) - q_base n k))) = _
          unfold q_adr
          rw [h7]
          show _ = va_rf (some (h0 + q_code n ek ((q_s0 n).2.2.2 k i j)))
          rw [show h0 + q_base n k + (q_code n ek ((q_s0 n).2.2.2 k i j) - q_base n k) = h0 + q_code n ek ((q_s0 n).2.2.2 k i j) from by omega]
/-- the world is there -/
theorem q_world {D : va_G} {cy : Nat → ClassId} {n h0 b : Nat} {H : Heap} (h1 : 1 ≤ n) (h4 : n ≤ 4) (hJ : va_P D vcl (r_ws cy h0 0 (r_cJ n)) H) (hM : va_P D vcl (r_ws cy (h0 + q_bj n) 0 (r_cM n)) H) (hO : va_at D vcl (h0 + q_bj n + 31, .inl (cy 1, 1, .inr (.inl (fun _ => 0)))) H) : WJ D cy (q_adr h0 b n) n (q_s0 n) H := by
  have hk := q_kd_ok n (q_n4 h1 h4)
  intro j q hq
  unfold wl at hq
  rw [List.getElem?_map] at hq
  obtain ⟨x, hx, rfl⟩ := Option.map_eq_some_iff.mp hq
  have hm := List.mem_of_getElem? hx
  obtain ⟨k, i⟩ := x
  have h63 : Nat.beq k 63 = false := by
    cases hb : Nat.beq k 63 with
    | true => exact absurd (Nat.eq_of_beq_eq_true hb) (hk (k, i) hm).1
    | false => rfl
  have hn4 := q_n4 h1 h4
  have hrg := q_rg_ok n hn4 (k, i) hm
  have hadr : q_adr h0 b n k i = h0 + q_code n k i := by
    unfold q_adr
    rw [h63]
    rfl
  show va_at D vcl (q_adr h0 b n k i, cj cy (q_adr h0 b n) n (q_s0 n) k i) H
  cases h23 : Nat.beq k 23 with
  | true =>
    obtain rfl := Nat.eq_of_beq_eq_true h23
    obtain rfl : i = 0 := (hk (23, i) hm).2.2 rfl
    rw [hadr, show h0 + q_code n 23 0 = h0 + q_bj n + 31 from by show h0 + (158 + 21 * n) = h0 + (127 + 21 * n) + 31; omega]
    exact hO
  | false =>
    cases hb : Nat.blt k 23 with
    | true =>
      have hc : (r_cJ n)[q_code n k i]? = some (q_xp n (q_s0 n) k i) := by
        have h9 : (q_nms n)[q_code n k i]? = some (k, i) := q_nms_ok n hn4 (k, i) hm (Nat.blt_eq.mp hb)
        rw [q_clb_eq (q_chJ n hn4), List.getElem?_map, h9]
        rfl
      refine q_cell h1 h4 hm ?_
      have h0' : q_base n k = 0 := by unfold q_base; rw [hb]; rfl
      rw [h0', hadr]
      exact hJ (q_code n k i) _ (by rw [r_ws_at, hc, Nat.zero_add]; rfl)
    | false =>
      have hgt : 23 < k := by
        have h3 := q_beq_ne h23
        have h4 : ¬ k < 23 := fun q => by
          rw [Nat.blt_eq.mpr q] at hb
          cases hb
        omega
      obtain ⟨hc2, hc3, hc4⟩ := hrg hgt
      replace hc2 : q_code n k i = q_bj n + (k - 24) := hc2
      replace hc3 : k < 55 := hc3
      replace hc4 : i = 0 := hc4
      have hc1 : (r_cM n)[q_code n k i - q_bj n]? = some (q_xp n (q_s0 n) k i) := by
        rw [hc2, show q_bj n + (k - 24) - q_bj n = k - 24 from by omega, q_clb_eq (q_chM n hn4), List.getElem?_map, List.getElem?_range (by omega), hc4]
        show some (q_xp n (q_s0 n) (24 + (k - 24)) 0) = _
        rw [show 24 + (k - 24) = k from by omega]
      refine q_cell h1 h4 hm ?_
      have h0' : q_base n k = q_bj n := by unfold q_base; rw [hb]; rfl
      rw [h0', hadr]
      have := hM (q_code n k i - q_bj n) _ (by rw [r_ws_at, hc1, Nat.zero_add]; rfl)
      rw [show h0 + q_bj n + (q_code n k i - q_bj n) = h0 + q_code n k i from by omega] at this
      exact this
theorem r_cJ_len {n : Nat} (h1 : 1 ≤ n) (h4 : n ≤ 4) : (r_cJ n).length = q_bj n ∧ (r_cM n).length = 31 := by
  rw [q_clb_eq (q_chJ n (q_n4 h1 h4)), q_clb_eq (q_chM n (q_n4 h1 h4)), List.length_map, List.length_map, List.length_range]
  exact ⟨q_nms_len n (q_n4 h1 h4), rfl⟩
