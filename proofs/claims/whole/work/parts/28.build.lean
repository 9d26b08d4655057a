/-! Building: an interpreter for constructors over a list of new cells. Ours, written by build.py -/
/-- a new cell: an object (its class, its fields) or a row (its type, its elements); a reference is (0, the cell's number) -/
abbrev PE : Type := (Nat × List PV) ⊕ (Nat × List PV)
abbrev CL : Type := List PE
def r_sz (e : PE) : Nat := match e with
  | .inl o => o.2.length
  | .inr a => a.2.length
def r_szs (C : CL) : Nat := (C.map r_sz).sum
def r_obj (e : PE) : Option (Nat × List PV) := match e with
  | .inl o => some o
  | .inr _ => none
def r_arr (e : PE) : Option (Nat × List PV) := match e with
  | .inl _ => none
  | .inr a => some a
def r_ad (h0 : Nat) : Nat → Nat → Nat := fun _ i => h0 + i
def r_i (v : PV) : Int32 := match v with
  | .inl x => x
  | _ => 0
def r_l (v : PV) : Int64 := match v with
  | .inr (.inl x) => x
  | _ => 0
def r_r (h0 : Nat) (v : PV) : Option Nat := match v with
  | .inr (.inr (some q)) => some (h0 + q.2)
  | _ => none
def r_row (h0 t : Nat) (es : List PV) : (Nat → Int32) ⊕ (Nat → Int64) ⊕ (Nat → UInt32) ⊕ (Nat → UInt64) ⊕ (Nat → Option Nat) := match t with
  | 0 => .inl (fun j => r_i (es.getD j (.inl 0)))
  | 1 => .inr (.inl (fun j => r_l (es.getD j (.inl 0))))
  | 2 => .inl (fun j => r_i (es.getD j (.inl 0)))
  | _ => .inr (.inr (.inr (.inr (fun j => r_r h0 (es.getD j (.inl 0))))))
def r_e (cy : Nat → ClassId) (h0 : Nat) (e : PE) : va_E := match e with
  | .inl o => .inr (o.1, o.2.map (q_tv (r_ad h0)))
  | .inr a => .inl (cy a.1, a.2.length, r_row h0 a.1 a.2)
def r_ws (cy : Nat → ClassId) (h0 : Nat) : Nat → CL → va_W
  | _, [] => []
  | i, e :: r => (h0 + i, r_e cy h0 e) :: r_ws cy h0 (i + 1) r
theorem r_ws_at {cy : Nat → ClassId} {h0 : Nat} : ∀ (C : CL) (i j : Nat), (r_ws cy h0 i C)[j]? = (C[j]?).map (fun e => (h0 + (i + j), r_e cy h0 e)) := by
  intro C
  induction C with
  | nil => intro i j; rfl
  | cons e r ih =>
    intro i j
    cases j with
    | zero => rfl
    | succ j =>
      show (r_ws cy h0 (i + 1) r)[j]? = (r[j]?).map _
      rw [ih]
      congr 1
      funext e
      rw [show i + 1 + j = i + (j + 1) by omega]
theorem r_ws_len {cy : Nat → ClassId} {h0 : Nat} : ∀ (C : CL) (i : Nat), (r_ws cy h0 i C).length = C.length := by
  intro C
  induction C with
  | nil => intro i; rfl
  | cons e r ih => intro i; show (r_ws cy h0 (i + 1) r).length + 1 = r.length + 1; rw [ih]
theorem r_ws_set {cy : Nat → ClassId} {h0 : Nat} {C : CL} {j : Nat} {e : PE} : (r_ws cy h0 0 C).set j (h0 + j, r_e cy h0 e) = r_ws cy h0 0 (C.set j e) := by
  apply List.ext_getElem?
  intro t
  rw [r_ws_at]
  by_cases ht : t = j
  · subst ht
    by_cases hl : t < C.length
    · rw [List.getElem?_set_self (by rw [r_ws_len]; exact hl), List.getElem?_set_self hl, Nat.zero_add]
      rfl
    · rw [List.getElem?_eq_none (by rw [List.length_set, r_ws_len]; omega), List.getElem?_eq_none (by rw [List.length_set]; omega)]
      rfl
  · rw [List.getElem?_set_ne (Ne.symm ht), List.getElem?_set_ne (Ne.symm ht), r_ws_at]
theorem r_ws_app {cy : Nat → ClassId} {h0 : Nat} {e : PE} : ∀ (C : CL) (i : Nat), r_ws cy h0 i (C ++ [e]) = r_ws cy h0 i C ++ [(h0 + (i + C.length), r_e cy h0 e)] := by
  intro C
  induction C with
  | nil => intro i; rfl
  | cons a r ih =>
    intro i
    show (h0 + i, _) :: r_ws cy h0 (i + 1) (r ++ [e]) = (h0 + i, _) :: (r_ws cy h0 (i + 1) r ++ _)
    rw [ih, show i + 1 + r.length = i + (a :: r).length by rw [List.length_cons]; omega]
abbrev r_A (h0 : Nat) : Nat → Prop := fun q => h0 ≤ q
theorem r_D {cy : Nat → ClassId} {h0 : Nat} (C : CL) : va_D (r_A h0) (r_ws cy h0 0 C) := by
  refine ⟨fun i j p q hp hq he => ?_, fun k q hk => ?_⟩
  · rw [r_ws_at] at hp hq
    obtain ⟨a, -, rfl⟩ := Option.map_eq_some_iff.mp hp
    obtain ⟨b, -, rfl⟩ := Option.map_eq_some_iff.mp hq
    replace he : h0 + (0 + i) = h0 + (0 + j) := he
    omega
  · rw [r_ws_at] at hk
    obtain ⟨a, -, rfl⟩ := Option.map_eq_some_iff.mp hk
    exact Nat.le_add_right _ _
/-- where a cell was made -/
theorem r_fresh {D : va_G} {cy : Nat → ClassId} {h0 q : Nat} {C : CL} {e : va_E} {H : Heap} (hP : va_P D vcl (r_ws cy h0 0 C ++ [(q, e)]) H) (hD : va_D (r_A h0) (r_ws cy h0 0 C ++ [(q, e)])) (hz : H.size ≤ h0 + C.length + 1) : q = h0 + C.length := by
  have hl : (r_ws cy h0 0 C ++ [(q, e)])[C.length]? = some (q, e) := by
    rw [List.getElem?_append_right (by rw [r_ws_len]; exact Nat.le_refl _), r_ws_len, Nat.sub_self]
    rfl
  have h1 := (hP _ _ hl).lt
  have h2 : h0 ≤ q := hD.2 _ _ hl
  replace h1 : q < H.size := h1
  by_cases hq : q = h0 + C.length
  · exact hq
  · have hi : q - h0 < C.length := by omega
    have hi2 : (r_ws cy h0 0 C ++ [(q, e)])[q - h0]? = some (h0 + (0 + (q - h0)), r_e cy h0 (C[q - h0]'hi)) := by
      rw [List.getElem?_append_left (by rw [r_ws_len]; exact hi), r_ws_at, List.getElem?_eq_getElem hi]
      rfl
    have := hD.1 _ _ _ _ hi2 hl (by show h0 + (0 + (q - h0)) = q; omega)
    omega
def r_ek (t : Nat) : Nat := match t with
  | 3 => 6
  | 4 => 2
  | 5 => 4
  | _ => 7
def r_at (t : Nat) : ArrayType := match t with
  | 0 => .int
  | 1 => .long
  | _ => .boolean
def r_d (t : Nat) : PV := match t with
  | 0 => .inl 0
  | 1 => .inr (.inl 0)
  | 2 => .inl 0
  | _ => .inr (.inr none)
def r_mtl : List MRow := [(⟨"JobBoard$Fields", "<init>", "()V"⟩, prog_3_method_1_code, 1, none),
  (⟨"JobBoard$Finding", "<init>", "()V"⟩, prog_4_method_1_code, 2, none),
  (⟨"JobBoard$Line", "<init>", "()V"⟩, prog_5_method_1_code, 1, none),
  (⟨"JobBoard$Pattern", "<init>", "()V"⟩, prog_7_method_1_code, 1, none),
  (⟨"JobBoard$Tuple", "<init>", "()V"⟩, prog_9_method_1_code, 1, none),
  (⟨"JobBoard$Order", "<init>", "()V"⟩, prog_6_method_1_code, 1, none),
  (⟨"JobBoard$Session", "<init>", "(I)V"⟩, prog_8_method_1_code, 3, none),
  (⟨"JobBoard$Board", "<init>", "()V"⟩, prog_2_method_1_code, 2, none),
  (⟨"JobBoard", "<init>", "(I)V"⟩, prog_1_method_1_code, 4, none),
  (⟨"JobBoardModel", "<init>", "(I)V"⟩, prog_11_method_1_code, 3, none),
  (⟨"JobBoardModel", "clear", "(I)V"⟩, prog_11_method_3_code, 3, none)]
def r_mt (k : Nat) : MRow := r_mtl.getD k (⟨"A", "", ""⟩, code, 0, none)
-- JobBoard$Fields
def w_0 : List (Nat × Op) := [(0, (10, 0, 0, 0, [])), (1, (88, 0, 3, 0, [])), (4, (10, 0, 0, 0, [])), (5, (0, 4, 0, 0, [])), (6, (85, 0, 0, 0, [])), (8, (84, 0, 9, 1, [3])), (11, (10, 0, 0, 0, [])), (12, (0, 4, 0, 0, [])), (13, (85, 0, 1, 0, [])), (15, (84, 0, 15, 2, [3])), (18, (76, 0, 0, 0, []))]
-- JobBoard$Finding
def w_1 : List (Nat × Op) := [(0, (10, 0, 0, 0, [])), (1, (88, 0, 3, 0, [])), (4, (10, 0, 0, 0, [])), (5, (0, 3, 0, 0, [])), (6, (85, 0, 0, 0, [])), (8, (84, 0, 9, 0, [5])), (11, (10, 0, 0, 0, [])), (12, (0, 4, 0, 0, [])), (13, (85, 0, 0, 0, [])), (15, (84, 0, 15, 2, [5])), (18, (10, 0, 0, 0, [])), (19, (0, 4, 0, 0, [])), (20, (85, 0, 1, 0, [])), (22, (84, 0, 18, 3, [5])), (25, (0, 0, 0, 0, [])), (26, (12, 0, 1, 0, [])), (27, (6, 0, 1, 0, [])), (28, (0, 3, 0, 0, [])), (29, (52, 16, 45, 0, [])), (32, (10, 0, 0, 0, [])), (33, (56, 0, 9, 0, [5])), (36, (6, 0, 1, 0, [])), (37, (0, (-1), 0, 0, [])), (38, (62, 0, 0, 0, [])), (39, (18, 1, 1, 0, [])), (42, (42, (-15), 27, 0, [])), (45, (76, 0, 0, 0, []))]
-- JobBoard$Line
def w_2 : List (Nat × Op) := [(0, (10, 0, 0, 0, [])), (1, (88, 0, 3, 0, [])), (4, (10, 0, 0, 0, [])), (5, (0, 4, 0, 0, [])), (6, (85, 0, 0, 0, [])), (8, (84, 0, 9, 0, [8])), (11, (76, 0, 0, 0, []))]
-- JobBoard$Pattern
def w_3 : List (Nat × Op) := [(0, (10, 0, 0, 0, [])), (1, (88, 0, 3, 0, [])), (4, (10, 0, 0, 0, [])), (5, (0, 4, 0, 0, [])), (6, (85, 0, 0, 0, [])), (8, (84, 0, 9, 1, [4])), (11, (10, 0, 0, 0, [])), (12, (0, 4, 0, 0, [])), (13, (85, 0, 1, 0, [])), (15, (84, 0, 15, 2, [4])), (18, (10, 0, 0, 0, [])), (19, (0, 4, 0, 0, [])), (20, (85, 0, 1, 0, [])), (22, (84, 0, 19, 3, [4])), (25, (76, 0, 0, 0, []))]
-- JobBoard$Tuple
def w_4 : List (Nat × Op) := [(0, (10, 0, 0, 0, [])), (1, (88, 0, 3, 0, [])), (4, (10, 0, 0, 0, [])), (5, (87, 0, 9, 3, [])), (8, (36, 0, 0, 0, [])), (9, (90, 0, 11, 0, [0])), (12, (84, 0, 12, 7, [2])), (15, (76, 0, 0, 0, []))]
-- JobBoard$Order
def w_5 : List (Nat × Op) := [(0, (10, 0, 0, 0, [])), (1, (88, 0, 3, 0, [])), (4, (10, 0, 0, 0, [])), (5, (87, 0, 9, 4, [])), (8, (36, 0, 0, 0, [])), (9, (90, 0, 11, 3, [0])), (12, (84, 0, 12, 0, [7])), (15, (10, 0, 0, 0, [])), (16, (0, 5, 0, 0, [])), (17, (85, 0, 0, 0, [])), (19, (84, 0, 18, 1, [7])), (22, (76, 0, 0, 0, []))]
-- JobBoard$Session
def w_6 : List (Nat × Op) := [(0, (10, 0, 0, 0, [])), (1, (88, 0, 3, 0, [])), (4, (10, 0, 0, 0, [])), (5, (87, 0, 9, 3, [])), (8, (36, 0, 0, 0, [])), (9, (90, 0, 11, 0, [0])), (12, (84, 0, 12, 1, [6])), (15, (10, 0, 0, 0, [])), (16, (0, 3, 0, 0, [])), (17, (86, 0, 18, 5, [])), (20, (84, 0, 20, 2, [6])), (23, (10, 0, 0, 0, [])), (24, (87, 0, 24, 5, [])), (27, (36, 0, 0, 0, [])), (28, (89, 0, 26, 1, [0])), (31, (84, 0, 27, 3, [6])), (34, (10, 0, 0, 0, [])), (35, (0, 0, 0, 0, [])), (36, (83, 0, 31, 5, [6])), (39, (10, 0, 0, 0, [])), (40, (6, 0, 1, 0, [])), (41, (83, 0, 35, 0, [6])), (44, (0, 0, 0, 0, [])), (45, (12, 0, 2, 0, [])), (46, (6, 0, 2, 0, [])), (47, (0, 3, 0, 0, [])), (48, (52, 22, 70, 0, [])), (51, (10, 0, 0, 0, [])), (52, (56, 0, 20, 2, [6])), (55, (6, 0, 2, 0, [])), (56, (87, 0, 18, 4, [])), (59, (36, 0, 0, 0, [])), (60, (90, 0, 38, 3, [0])), (63, (64, 0, 0, 0, [])), (64, (18, 1, 2, 0, [])), (67, (42, (-21), 46, 0, [])), (70, (76, 0, 0, 0, []))]
-- JobBoard$Board
def w_7 : List (Nat × Op) := [(0, (10, 0, 0, 0, [])), (1, (88, 0, 3, 0, [])), (4, (10, 0, 0, 0, [])), (5, (1, 20, 0, 0, [])), (7, (86, 0, 9, 4, [])), (10, (84, 0, 11, 0, [1])), (13, (0, 0, 0, 0, [])), (14, (12, 0, 1, 0, [])), (15, (6, 0, 1, 0, [])), (16, (1, 20, 0, 0, [])), (18, (52, 22, 40, 0, [])), (21, (10, 0, 0, 0, [])), (22, (56, 0, 11, 0, [1])), (25, (6, 0, 1, 0, [])), (26, (87, 0, 9, 2, [])), (29, (36, 0, 0, 0, [])), (30, (90, 0, 17, 4, [0])), (33, (64, 0, 0, 0, [])), (34, (18, 1, 1, 0, [])), (37, (42, (-22), 15, 0, [])), (40, (76, 0, 0, 0, []))]
-- JobBoard
def w_8 : List (Nat × Op) := [(0, (10, 0, 0, 0, [])), (1, (88, 0, 1, 0, [])), (4, (0, 1, 0, 0, [])), (5, (0, 4, 0, 0, [])), (6, (6, 0, 1, 0, [])), (7, (91, 0, 9, 0, [])), (10, (92, 0, 15, 0, [])), (13, (12, 0, 2, 0, [])), (14, (10, 0, 0, 0, [])), (15, (6, 0, 2, 0, [])), (16, (86, 0, 18, 3, [])), (19, (84, 0, 20, 0, [0])), (22, (0, 0, 0, 0, [])), (23, (12, 0, 3, 0, [])), (24, (6, 0, 3, 0, [])), (25, (6, 0, 2, 0, [])), (26, (52, 23, 49, 0, [])), (29, (10, 0, 0, 0, [])), (30, (56, 0, 20, 0, [0])), (33, (6, 0, 3, 0, [])), (34, (87, 0, 18, 6, [])), (37, (36, 0, 0, 0, [])), (38, (6, 0, 3, 0, [])), (39, (89, 0, 24, 6, [1])), (42, (64, 0, 0, 0, [])), (43, (18, 1, 3, 0, [])), (46, (42, (-22), 24, 0, [])), (49, (10, 0, 0, 0, [])), (50, (87, 0, 27, 1, [])), (53, (36, 0, 0, 0, [])), (54, (89, 0, 29, 7, [0])), (57, (84, 0, 30, 1, [0])), (60, (10, 0, 0, 0, [])), (61, (87, 0, 34, 8, [])), (64, (36, 0, 0, 0, [])), (65, (90, 0, 36, 2, [0])), (68, (84, 0, 37, 2, [0])), (71, (10, 0, 0, 0, [])), (72, (1, 6, 0, 0, [])), (74, (86, 0, 41, 6, [])), (77, (84, 0, 43, 3, [0])), (80, (0, 0, 0, 0, [])), (81, (12, 0, 3, 0, [])), (82, (6, 0, 3, 0, [])), (83, (1, 6, 0, 0, [])), (85, (52, 22, 107, 0, [])), (88, (10, 0, 0, 0, [])), (89, (56, 0, 43, 3, [0])), (92, (6, 0, 3, 0, [])), (93, (87, 0, 41, 7, [])), (96, (36, 0, 0, 0, [])), (97, (90, 0, 47, 5, [0])), (100, (64, 0, 0, 0, [])), (101, (18, 1, 3, 0, [])), (104, (42, (-22), 82, 0, [])), (107, (10, 0, 0, 0, [])), (108, (87, 0, 48, 5, [])), (111, (36, 0, 0, 0, [])), (112, (89, 0, 50, 1, [0])), (115, (84, 0, 51, 6, [0])), (118, (76, 0, 0, 0, []))]
-- JobBoardModel
def w_9 : List (Nat × Op) := [(0, (10, 0, 0, 0, [])), (1, (88, 0, 1, 0, [])), (4, (10, 0, 0, 0, [])), (5, (1, 20, 0, 0, [])), (7, (85, 0, 0, 0, [])), (9, (84, 0, 7, 4, [9])), (12, (10, 0, 0, 0, [])), (13, (1, 20, 0, 0, [])), (15, (85, 0, 0, 0, [])), (17, (84, 0, 13, 5, [9])), (20, (10, 0, 0, 0, [])), (21, (1, 20, 0, 0, [])), (23, (85, 0, 0, 0, [])), (25, (84, 0, 16, 6, [9])), (28, (10, 0, 0, 0, [])), (29, (1, 20, 0, 0, [])), (31, (85, 0, 0, 0, [])), (33, (84, 0, 19, 7, [9])), (36, (10, 0, 0, 0, [])), (37, (1, 20, 0, 0, [])), (39, (85, 0, 0, 0, [])), (41, (84, 0, 22, 8, [9])), (44, (10, 0, 0, 0, [])), (45, (1, 20, 0, 0, [])), (47, (85, 0, 0, 0, [])), (49, (84, 0, 25, 9, [9])), (52, (10, 0, 0, 0, [])), (53, (1, 20, 0, 0, [])), (55, (85, 0, 0, 0, [])), (57, (84, 0, 28, 10, [9])), (60, (10, 0, 0, 0, [])), (61, (1, 80, 0, 0, [])), (63, (85, 0, 0, 0, [])), (65, (84, 0, 31, 11, [9])), (68, (10, 0, 0, 0, [])), (69, (1, 80, 0, 0, [])), (71, (85, 0, 1, 0, [])), (73, (84, 0, 34, 12, [9])), (76, (10, 0, 0, 0, [])), (77, (0, 4, 0, 0, [])), (78, (85, 0, 0, 0, [])), (80, (84, 0, 38, 14, [9])), (83, (10, 0, 0, 0, [])), (84, (0, 4, 0, 0, [])), (85, (85, 0, 0, 0, [])), (87, (84, 0, 41, 15, [9])), (90, (10, 0, 0, 0, [])), (91, (1, 16, 0, 0, [])), (93, (85, 0, 0, 0, [])), (95, (84, 0, 44, 16, [9])), (98, (10, 0, 0, 0, [])), (99, (1, 16, 0, 0, [])), (101, (85, 0, 1, 0, [])), (103, (84, 0, 47, 17, [9])), (106, (10, 0, 0, 0, [])), (107, (1, 18, 0, 0, [])), (109, (85, 0, 0, 0, [])), (111, (84, 0, 50, 18, [9])), (114, (10, 0, 0, 0, [])), (115, (1, 72, 0, 0, [])), (117, (85, 0, 0, 0, [])), (119, (84, 0, 53, 19, [9])), (122, (10, 0, 0, 0, [])), (123, (1, 72, 0, 0, [])), (125, (85, 0, 1, 0, [])), (127, (84, 0, 56, 20, [9])), (130, (10, 0, 0, 0, [])), (131, (1, 72, 0, 0, [])), (133, (85, 0, 1, 0, [])), (135, (84, 0, 59, 21, [9])), (138, (10, 0, 0, 0, [])), (139, (0, 4, 0, 0, [])), (140, (85, 0, 0, 0, [])), (142, (84, 0, 62, 23, [9])), (145, (10, 0, 0, 0, [])), (146, (0, 4, 0, 0, [])), (147, (85, 0, 0, 0, [])), (149, (84, 0, 65, 24, [9])), (152, (10, 0, 0, 0, [])), (153, (0, 4, 0, 0, [])), (154, (85, 0, 0, 0, [])), (156, (84, 0, 68, 25, [9])), (159, (10, 0, 0, 0, [])), (160, (0, 4, 0, 0, [])), (161, (85, 0, 0, 0, [])), (163, (84, 0, 71, 26, [9])), (166, (10, 0, 0, 0, [])), (167, (1, 12, 0, 0, [])), (169, (85, 0, 0, 0, [])), (171, (84, 0, 74, 27, [9])), (174, (10, 0, 0, 0, [])), (175, (1, 16, 0, 0, [])), (177, (85, 0, 0, 0, [])), (179, (84, 0, 77, 28, [9])), (182, (10, 0, 0, 0, [])), (183, (1, 16, 0, 0, [])), (185, (85, 0, 1, 0, [])), (187, (84, 0, 80, 29, [9])), (190, (10, 0, 0, 0, [])), (191, (1, 6, 0, 0, [])), (193, (85, 0, 0, 0, [])), (195, (84, 0, 83, 31, [9])), (198, (10, 0, 0, 0, [])), (199, (1, 30, 0, 0, [])), (201, (85, 0, 0, 0, [])), (203, (84, 0, 86, 32, [9])), (206, (10, 0, 0, 0, [])), (207, (1, 6, 0, 0, [])), (209, (85, 0, 2, 0, [])), (211, (84, 0, 89, 33, [9])), (214, (10, 0, 0, 0, [])), (215, (1, 16, 0, 0, [])), (217, (85, 0, 0, 0, [])), (219, (84, 0, 93, 34, [9])), (222, (10, 0, 0, 0, [])), (223, (1, 16, 0, 0, [])), (225, (85, 0, 1, 0, [])), (227, (84, 0, 96, 35, [9])), (230, (10, 0, 0, 0, [])), (231, (0, 3, 0, 0, [])), (232, (85, 0, 0, 0, [])), (234, (84, 0, 99, 36, [9])), (237, (10, 0, 0, 0, [])), (238, (6, 0, 1, 0, [])), (239, (0, 1, 0, 0, [])), (240, (52, 7, 247, 0, [])), (243, (0, 1, 0, 0, [])), (244, (42, 13, 257, 0, [])), (247, (6, 0, 1, 0, [])), (248, (0, 4, 0, 0, [])), (249, (54, 7, 256, 0, [])), (252, (0, 4, 0, 0, [])), (253, (42, 4, 257, 0, [])), (256, (6, 0, 1, 0, [])), (257, (83, 0, 102, 13, [9])), (260, (0, 0, 0, 0, [])), (261, (12, 0, 2, 0, [])), (262, (6, 0, 2, 0, [])), (263, (0, 4, 0, 0, [])), (264, (52, 21, 285, 0, [])), (267, (10, 0, 0, 0, [])), (268, (6, 0, 2, 0, [])), (269, (67, 0, 106, 10, [1])), (272, (10, 0, 0, 0, [])), (273, (56, 0, 93, 34, [9])), (276, (6, 0, 2, 0, [])), (277, (0, (-1), 0, 0, [])), (278, (62, 0, 0, 0, [])), (279, (18, 1, 2, 0, [])), (282, (42, (-20), 262, 0, [])), (285, (76, 0, 0, 0, []))]
-- JobBoardModel
def w_10 : List (Nat × Op) := [(0, (0, 0, 0, 0, [])), (1, (12, 0, 2, 0, [])), (2, (6, 0, 2, 0, [])), (3, (0, 3, 0, 0, [])), (4, (52, 20, 24, 0, [])), (7, (10, 0, 0, 0, [])), (8, (56, 0, 74, 27, [9])), (11, (0, 3, 0, 0, [])), (12, (6, 0, 1, 0, [])), (13, (21, 0, 0, 0, [])), (14, (6, 0, 2, 0, [])), (15, (19, 0, 0, 0, [])), (16, (0, (-1), 0, 0, [])), (17, (62, 0, 0, 0, [])), (18, (18, 1, 2, 0, [])), (21, (42, (-19), 2, 0, [])), (24, (0, 0, 0, 0, [])), (25, (12, 0, 2, 0, [])), (26, (6, 0, 2, 0, [])), (27, (0, 4, 0, 0, [])), (28, (52, 31, 59, 0, [])), (31, (10, 0, 0, 0, [])), (32, (56, 0, 77, 28, [9])), (35, (0, 4, 0, 0, [])), (36, (6, 0, 1, 0, [])), (37, (21, 0, 0, 0, [])), (38, (6, 0, 2, 0, [])), (39, (19, 0, 0, 0, [])), (40, (0, (-1), 0, 0, [])), (41, (62, 0, 0, 0, [])), (42, (10, 0, 0, 0, [])), (43, (56, 0, 80, 29, [9])), (46, (0, 4, 0, 0, [])), (47, (6, 0, 1, 0, [])), (48, (21, 0, 0, 0, [])), (49, (6, 0, 2, 0, [])), (50, (19, 0, 0, 0, [])), (51, (3, 0, 0, 0, [])), (52, (63, 0, 0, 0, [])), (53, (18, 1, 2, 0, [])), (56, (42, (-30), 26, 0, [])), (59, (76, 0, 0, 0, []))]
def r_prg : List (List (Nat × Op)) := [w_0, w_1, w_2, w_3, w_4, w_5, w_6, w_7, w_8, w_9, w_10]
def r_pr (k pc : Nat) : Option Op := q_fd (r_prg.getD k []) pc
def r_dvl : List (List PV) := [[.inr (.inr none), .inr (.inr none), .inr (.inr none), .inr (.inr none), .inl 0, .inl 0, .inr (.inr none)],
  [.inr (.inr none), .inl 0, .inl 0],
  [.inl 0, .inl 0, .inl 0, .inl 0, .inl 0, .inl 0, .inl 0, .inr (.inr none)],
  [.inl 0, .inr (.inr none), .inr (.inr none)],
  [.inl 0, .inr (.inr none), .inr (.inr none), .inr (.inr none)],
  [.inr (.inr none), .inl 0, .inr (.inr none), .inr (.inr none)],
  [.inl 0, .inr (.inr none), .inr (.inr none), .inr (.inr none), .inl 0, .inl 0, .inl 0, .inl 0],
  [.inr (.inr none), .inr (.inr none), .inl 0, .inl 0],
  [.inr (.inr none), .inl 0],
  [.inl 0, .inl 0, .inl 0, .inl 0, .inr (.inr none), .inr (.inr none), .inr (.inr none), .inr (.inr none), .inr (.inr none), .inr (.inr none), .inr (.inr none), .inr (.inr none), .inr (.inr none), .inl 0, .inr (.inr none), .inr (.inr none), .inr (.inr none), .inr (.inr none), .inr (.inr none), .inr (.inr none), .inr (.inr none), .inr (.inr none), .inl 0, .inr (.inr none), .inr (.inr none), .inr (.inr none), .inr (.inr none), .inr (.inr none), .inr (.inr none), .inr (.inr none), .inl 0, .inr (.inr none), .inr (.inr none), .inr (.inr none), .inr (.inr none), .inr (.inr none), .inr (.inr none)]]
def r_dv (ci : Nat) : List PV := r_dvl.getD ci []
def r_nests : List (String × Nat × MethodName × String) := [("JobBoard$Tuple", 11, ⟨"JobBoard$Fields", "<init>", "()V"⟩, "JobBoard"), ("JobBoard$Order", 11, ⟨"JobBoard$Pattern", "<init>", "()V"⟩, "JobBoard"), ("JobBoard$Session", 11, ⟨"JobBoard$Fields", "<init>", "()V"⟩, "JobBoard"), ("JobBoard$Session", 38, ⟨"JobBoard$Pattern", "<init>", "()V"⟩, "JobBoard"), ("JobBoard$Board", 17, ⟨"JobBoard$Tuple", "<init>", "()V"⟩, "JobBoard"), ("JobBoard", 36, ⟨"JobBoard$Line", "<init>", "()V"⟩, "JobBoard"), ("JobBoard", 47, ⟨"JobBoard$Order", "<init>", "()V"⟩, "JobBoard")]
def r_Nw (U : State) : Prop := (∀ q ∈ r_nests, va_Nw (.methodLinkNest q.1 q.2.1 q.2.2.1 q.2.2.2) U) ∧ ∀ C ∈ ["JobBoard$Session", "JobBoard$Tuple", "JobBoard$Pattern", "JobBoard$Order"], va_AO C U
theorem r_Nw.warm {s U : State} (hW : s.WarmedH U.vm) (h : r_Nw s) : r_Nw U := ⟨fun q hq => (h.1 q hq).warmM hW, fun C hC => (h.2 C hC).moved hW.alike⟩
theorem r_Nw.same {s U : State} (hW : s.vm = U.vm) (h : r_Nw s) : r_Nw U := ⟨fun q hq => va_Nw.same rfl hW (h.1 q hq), fun C hC => va_AO.moved (u := s) (by rw [hW]; exact Vm.Alike.refl U.vm) (h.2 C hC)⟩
def r_stp (mx : Nat × Nat) (g : Nat → PL → List PV → CL → Option CL) (cal : Nat → List PV → CL → Option CL) (pc : Nat) (o : Op) (L : PL) (st : List PV) (σ : CL) : Option CL := match o.1 with
  | 0 => g (pc + 1) L (.inl (Int32.ofInt o.2.1) :: st) σ
  | 1 => g (pc + 2) L (.inl (Int32.ofInt o.2.1) :: st) σ
  | 3 => g (pc + 1) L (.inr (.inl (Int64.ofInt o.2.1)) :: st) σ
  | 6 => (L o.2.2.1).bind fun v => (q_pI (v :: st)).bind fun _ => g (pc + 1) L (v :: st) σ
  | 10 => (L o.2.2.1).bind fun v => (q_pN (v :: st)).bind fun _ => g (pc + 1) L (v :: st) σ
  | 12 => (q_pI st).bind fun q => g (pc + 1) (q_s1 L o.2.2.1 (.inl q.1)) q.2 σ
  | 18 => (L o.2.2.1).bind fun v => (q_pI [v]).bind fun q => g (pc + 3) (q_s1 L o.2.2.1 (.inl (q.1 + Int32.ofInt o.2.1))) st σ
  | 19 => (q_pI st).bind fun y => (q_pI y.2).bind fun x => g (pc + 1) L (.inl (x.1 + y.1) :: x.2) σ
  | 21 => (q_pI st).bind fun y => (q_pI y.2).bind fun x => g (pc + 1) L (.inl (x.1 * y.1) :: x.2) σ
  | 36 => (q_p1 st).bind fun x => g (pc + 1) L (x.1 :: x.1 :: x.2) σ
  | 42 => g o.2.2.1 L st σ
  | 52 => (q_pI st).bind fun y => (q_pI y.2).bind fun x => if y.1 ≤ x.1 then g o.2.2.1 L x.2 σ else g (pc + 3) L x.2 σ
  | 54 => (q_pI st).bind fun y => (q_pI y.2).bind fun x => if x.1 ≤ y.1 then g o.2.2.1 L x.2 σ else g (pc + 3) L x.2 σ
  | 56 => (q_pR st).bind fun q => (σ[q.1.2]?).bind fun e => (r_obj e).bind fun w => bif Nat.beq w.1 (o.2.2.2.2.getD 0 0) then (w.2[o.2.2.2.1]?).bind fun v => g (pc + 3) L (v :: q.2) σ else none
  | 62 => (q_pI st).bind fun v => (q_pI v.2).bind fun j => (q_pR j.2).bind fun q => (σ[q.1.2]?).bind fun e => (r_arr e).bind fun w => bif Nat.beq w.1 0 && q_in j.1 w.2.length then g (pc + 1) L q.2 (σ.set q.1.2 (.inr (w.1, w.2.set j.1.toNatClampNeg (.inl v.1)))) else none
  | 63 => (q_pL st).bind fun v => (q_pI v.2).bind fun j => (q_pR j.2).bind fun q => (σ[q.1.2]?).bind fun e => (r_arr e).bind fun w => bif Nat.beq w.1 1 && q_in j.1 w.2.length then g (pc + 1) L q.2 (σ.set q.1.2 (.inr (w.1, w.2.set j.1.toNatClampNeg (.inr (.inl v.1))))) else none
  | 64 => (q_pR st).bind fun v => (q_pI v.2).bind fun j => (q_pR j.2).bind fun q => (σ[q.1.2]?).bind fun e => (r_arr e).bind fun w => (σ[v.1.2]?).bind fun e2 => (r_obj e2).bind fun w2 => bif Nat.blt 2 w.1 && Nat.blt w.1 7 && Nat.beq (r_ek w.1) w2.1 && q_in j.1 w.2.length then g (pc + 1) L q.2 (σ.set q.1.2 (.inr (w.1, w.2.set j.1.toNatClampNeg (.inr (.inr (some v.1)))))) else none
  | 67 => (q_pop (o.2.2.2.2.getD 0 0) st).bind fun a => (q_pR a.2).bind fun q => (σ[q.1.2]?).bind fun e => (r_obj e).bind fun w => bif Nat.beq w.1 9 && q_rm q.2 && Nat.ble ((a.1.map q_cat).sum + 1) 3 then (cal o.2.2.2.1 (.inr (.inr (some q.1)) :: a.1) σ).bind fun σ1 => g (pc + 3) L q.2 σ1 else none
  | 76 => match st with
    | [] => bif Nat.beq σ.length mx.1 && Nat.beq (r_szs σ) mx.2 then some σ else none
    | _ :: _ => none
  | 83 => (q_pI st).bind fun v => (q_pR v.2).bind fun q => (σ[q.1.2]?).bind fun e => (r_obj e).bind fun w => bif Nat.beq w.1 (o.2.2.2.2.getD 0 0) && Nat.blt o.2.2.2.1 w.2.length then g (pc + 3) L q.2 (σ.set q.1.2 (.inl (w.1, w.2.set o.2.2.2.1 (.inl v.1)))) else none
  | 84 => (q_pR st).bind fun v => (q_pR v.2).bind fun q => (σ[q.1.2]?).bind fun e => (r_obj e).bind fun w => bif Nat.beq w.1 (o.2.2.2.2.getD 0 0) && Nat.blt o.2.2.2.1 w.2.length then g (pc + 3) L q.2 (σ.set q.1.2 (.inl (w.1, w.2.set o.2.2.2.1 (.inr (.inr (some v.1)))))) else none
  | 85 => (q_pI st).bind fun j => bif decide (¬ j.1 < 0) && Nat.ble j.1.toNatClampNeg 1000 && Nat.ble (σ.length + 1) mx.1 && Nat.ble (r_szs σ + j.1.toNatClampNeg) mx.2 && Nat.blt o.2.2.1 3 then g (pc + 2) L (.inr (.inr (some (0, σ.length))) :: j.2) (σ ++ [.inr (o.2.2.1, List.replicate j.1.toNatClampNeg (r_d o.2.2.1))]) else none
  | 86 => (q_pI st).bind fun j => bif decide (¬ j.1 < 0) && Nat.ble j.1.toNatClampNeg 1000 && Nat.ble (σ.length + 1) mx.1 && Nat.ble (r_szs σ + j.1.toNatClampNeg) mx.2 && Nat.blt 2 o.2.2.2.1 && Nat.blt o.2.2.2.1 7 then g (pc + 3) L (.inr (.inr (some (0, σ.length))) :: j.2) (σ ++ [.inr (o.2.2.2.1, List.replicate j.1.toNatClampNeg (.inr (.inr none)))]) else none
  | 87 => bif Nat.ble (σ.length + 1) mx.1 && Nat.ble (r_szs σ + (r_dv o.2.2.2.1).length) mx.2 then g (pc + 3) L (.inr (.inr (some (0, σ.length))) :: st) (σ ++ [.inl (o.2.2.2.1, r_dv o.2.2.2.1)]) else none
  | 88 => (q_pR st).bind fun q => bif q_rm q.2 then g (pc + 3) L q.2 σ else none
  | 89 => (q_pop (o.2.2.2.2.getD 0 0) st).bind fun a => (q_pR a.2).bind fun q => bif q_rm q.2 && Nat.ble ((a.1.map q_cat).sum + 1) (r_mt o.2.2.2.1).2.2.1 then (cal o.2.2.2.1 (.inr (.inr (some q.1)) :: a.1) σ).bind fun σ1 => g (pc + 3) L q.2 σ1 else none
  | 90 => (q_pop (o.2.2.2.2.getD 0 0) st).bind fun a => (q_pR a.2).bind fun q => bif q_rm q.2 && Nat.ble ((a.1.map q_cat).sum + 1) (r_mt o.2.2.2.1).2.2.1 then (cal o.2.2.2.1 (.inr (.inr (some q.1)) :: a.1) σ).bind fun σ1 => g (pc + 3) L q.2 σ1 else none
  | 91 => (q_pI st).bind fun y => (q_pI y.2).bind fun x => bif q_rm x.2 then g (pc + 3) L (.inl (if y.1 < x.1 then y.1 else x.1) :: x.2) σ else none
  | 92 => (q_pI st).bind fun y => (q_pI y.2).bind fun x => bif q_rm x.2 then g (pc + 3) L (.inl (if x.1 < y.1 then y.1 else x.1) :: x.2) σ else none
  | _ => none
/-- what a constructor makes: cells, places -/
def r_cost (k : Nat) : Nat × Nat := match k with
  | 0 => (2, 8)
  | 1 => (3, 11)
  | 2 => (1, 4)
  | 3 => (3, 12)
  | 4 => (3, 11)
  | 5 => (5, 21)
  | 6 => (20, 77)
  | 7 => (81, 400)
  | _ => (0, 0)
/-- a call: what it must have made -/
def r_call (mx : Nat × Nat) (mc ms : Nat) (σ : CL) (x : Option CL) : Option CL := x.bind fun σ1 => bif Nat.beq σ1.length (σ.length + mc) && Nat.beq (r_szs σ1) (r_szs σ + ms) && Nat.ble σ1.length mx.1 && Nat.ble (r_szs σ1) mx.2 && Nat.blt 0 σ.length then some σ1 else none
def r_run : Nat → Nat → Nat → Nat × Nat → Nat → PL → List PV → CL → Option CL
  | _, 0, _, _, _, _, _, _ => none
  | d, f + 1, k, mx, pc, L, st, σ => match r_pr k pc with
    | none => none
    | some o => r_stp mx (fun pc' L' st' σ' => r_run d f k mx pc' L' st' σ') (fun k' vs σ' => match d with
      | 0 => none
      | d' + 1 => r_call mx (r_cost k').1 (r_cost k').2 σ' (r_run d' f k' (σ'.length + (r_cost k').1, r_szs σ' + (r_cost k').2) 0 (q_args 0 vs) [] σ')) pc o L st σ
def q_wm (w : Cond) : Bool := decide (w ∈ lw_tbl) && goodWord w
theorem q_wm_in {w : Cond} (h : q_wm w = true) : w ∈ gt := by
  unfold q_wm at h
  rw [Bool.and_eq_true] at h
  exact gt_of (of_decide_eq_true h.1) h.2
def r_code (mt : Nat → MRow) (k : Nat) : Cond := Cond.code (mt k).1 (mt k).2.1 (mt k).2.2.1 (mt k).2.2.2
def r_isr (t : Option FieldType) : Bool := match t with
  | some (.object _) => true
  | some (.array _) => true
  | _ => false
def r_okB (mt : Nat → MRow) (k pc : Nat) (o : Op) : Bool := match o.1 with
  | 0 => q_dc (mt k).2.1 pc (.iconst o.2.1) 1
  | 1 => q_dc (mt k).2.1 pc (.bipush o.2.1) 2 && decide ((Int8.ofInt o.2.1).toInt32 = Int32.ofInt o.2.1)
  | 3 => q_dc (mt k).2.1 pc (.lconst (Fin.ofNat 2 o.2.2.1)) 1 && decide (Int64.ofNat ((Fin.ofNat 2 o.2.2.1 : Fin 2) : Nat) = Int64.ofInt o.2.1)
  | 6 => q_dc (mt k).2.1 pc (.iload_n (Fin.ofNat 4 o.2.2.1)) 1 && decide (((Fin.ofNat 4 o.2.2.1 : Fin 4) : Nat) = o.2.2.1) && Nat.blt o.2.2.1 (mt k).2.2.1
  | 10 => q_dc (mt k).2.1 pc (.aload_n (Fin.ofNat 4 o.2.2.1)) 1 && decide (((Fin.ofNat 4 o.2.2.1 : Fin 4) : Nat) = o.2.2.1) && Nat.blt o.2.2.1 (mt k).2.2.1
  | 12 => q_dc (mt k).2.1 pc (.istore_n (Fin.ofNat 4 o.2.2.1)) 1 && decide (((Fin.ofNat 4 o.2.2.1 : Fin 4) : Nat) = o.2.2.1) && Nat.blt o.2.2.1 (mt k).2.2.1
  | 18 => q_dc (mt k).2.1 pc (.iinc o.2.2.1 o.2.1) 3 && Nat.blt o.2.2.1 (mt k).2.2.1
  | 19 => q_dc (mt k).2.1 pc .iadd 1
  | 21 => q_dc (mt k).2.1 pc .imul 1
  | 36 => q_dc (mt k).2.1 pc .dup 1
  | 42 => q_dc (mt k).2.1 pc (.goto o.2.1) 3 && q_tg pc o.2.1 o.2.2.1
  | 52 => q_dc (mt k).2.1 pc (.if_icmp .ge o.2.1) 3 && q_tg pc o.2.1 o.2.2.1
  | 54 => q_dc (mt k).2.1 pc (.if_icmp .le o.2.1) 3 && q_tg pc o.2.1 o.2.2.1
  | 56 => q_dc (mt k).2.1 pc (.getfield o.2.2.1) 3 && q_wm (.fieldLink (mt k).1.cls o.2.2.1 ((q_cl (o.2.2.2.2.getD 0 0)).2.1 o.2.2.2.1).1 ((q_cl (o.2.2.2.2.getD 0 0)).2.1 o.2.2.2.1).2.1 ((q_cl (o.2.2.2.2.getD 0 0)).2.1 o.2.2.2.1).2.2.1) && Nat.blt (o.2.2.2.2.getD 0 0) 10 && Nat.blt o.2.2.2.1 (q_cl (o.2.2.2.2.getD 0 0)).2.2
  | 62 => q_dc (mt k).2.1 pc .iastore 1
  | 63 => q_dc (mt k).2.1 pc .lastore 1
  | 64 => q_dc (mt k).2.1 pc .aastore 1
  | 67 => q_dc (mt k).2.1 pc (.invokevirtual o.2.2.1) 3 && q_wm (.methodLink (mt k).1.cls o.2.2.1 (mt o.2.2.2.1).1) && q_wm (.instanceMethod (mt o.2.2.2.1).1) && q_wm (.selects (q_cl 9).1 (mt o.2.2.2.1).1 (mt o.2.2.2.1).1) && q_wm (.initialized (q_cl 9).1) && q_wm (r_code mt o.2.2.2.1) && q_ny (mt o.2.2.2.1).1 (q_cl 9).1 (o.2.2.2.2.getD 0 0) && Nat.ble (mt o.2.2.2.1).2.2.1 30 && Nat.beq (mt o.2.2.2.1).2.2.1 3
  | 76 => q_dc (mt k).2.1 pc .return_ 1 && decide ((mt k).2.2.2 = none)
  | 83 => q_dc (mt k).2.1 pc (.putfield o.2.2.1) 3 && q_wm (.fieldLink (mt k).1.cls o.2.2.1 ((q_cl (o.2.2.2.2.getD 0 0)).2.1 o.2.2.2.1).1 ((q_cl (o.2.2.2.2.getD 0 0)).2.1 o.2.2.2.1).2.1 ((q_cl (o.2.2.2.2.getD 0 0)).2.1 o.2.2.2.1).2.2.1) && Nat.blt (o.2.2.2.2.getD 0 0) 10 && Nat.blt o.2.2.2.1 (q_cl (o.2.2.2.2.getD 0 0)).2.2 && decide (((q_cl (o.2.2.2.2.getD 0 0)).2.1 o.2.2.2.1).2.2.1 = "I") && decide (((q_cl (o.2.2.2.2.getD 0 0)).2.1 o.2.2.2.1).1 = (mt k).1.cls) && decide ((mt k).1.name = "<init>")
  | 84 => q_dc (mt k).2.1 pc (.putfield o.2.2.1) 3 && q_wm (.fieldLink (mt k).1.cls o.2.2.1 ((q_cl (o.2.2.2.2.getD 0 0)).2.1 o.2.2.2.1).1 ((q_cl (o.2.2.2.2.getD 0 0)).2.1 o.2.2.2.1).2.1 ((q_cl (o.2.2.2.2.getD 0 0)).2.1 o.2.2.2.1).2.2.1) && Nat.blt (o.2.2.2.2.getD 0 0) 10 && Nat.blt o.2.2.2.1 (q_cl (o.2.2.2.2.getD 0 0)).2.2 && r_isr (parseFieldDescriptor ((q_cl (o.2.2.2.2.getD 0 0)).2.1 o.2.2.2.1).2.2.1) && decide (((q_cl (o.2.2.2.2.getD 0 0)).2.1 o.2.2.2.1).1 = (mt k).1.cls) && decide ((mt k).1.name = "<init>")
  | 85 => q_dc (mt k).2.1 pc (.newarray (r_at o.2.2.1)) 2 && q_wm (.arrayClass (newarray.typeOf (r_at o.2.2.1)))
  | 86 => q_dc (mt k).2.1 pc (.anewarray o.2.2.1) 3 && q_wm (.classLink (mt k).1.cls o.2.2.1 (q_cl (r_ek o.2.2.2.1)).1)
  | 87 => q_dc (mt k).2.1 pc (.new o.2.2.1) 3 && q_wm (.classLink (mt k).1.cls o.2.2.1 (q_cl o.2.2.2.1).1) && q_wm (.instantiable (q_cl o.2.2.2.1).1 (q_cl o.2.2.2.1).2.2) && q_wm (.initialized (q_cl o.2.2.2.1).1) && Nat.blt o.2.2.2.1 10
  | 88 => q_dc (mt k).2.1 pc (.invokespecial o.2.2.1) 3 && q_wm (.methodLink (mt k).1.cls o.2.2.1 Lib.objectInit) && q_wm (.instanceMethod Lib.objectInit) && q_wm (.code Lib.objectInit ⟨#[0xb1]⟩ 1 none)
  | 89 => q_dc (mt k).2.1 pc (.invokespecial o.2.2.1) 3 && q_wm (.methodLink (mt k).1.cls o.2.2.1 (mt o.2.2.2.1).1) && q_wm (.instanceMethod (mt o.2.2.2.1).1) && q_wm (.initialized (mt o.2.2.2.1).1.cls) && q_wm (r_code mt o.2.2.2.1) && q_ny (mt o.2.2.2.1).1 (mt o.2.2.2.1).1.cls (o.2.2.2.2.getD 0 0) && Nat.ble (mt o.2.2.2.1).2.2.1 30 && decide ((mt o.2.2.2.1).1.name = "<init>") && decide ((mt o.2.2.2.1).2.2.2 = none) && Nat.beq (mt o.2.2.2.1).2.2.1 (r_mt o.2.2.2.1).2.2.1
  | 90 => q_dc (mt k).2.1 pc (.invokespecial o.2.2.1) 3 && decide (((mt k).1.cls, o.2.2.1, (mt o.2.2.2.1).1, "JobBoard") ∈ r_nests) && q_wm (.instanceMethod (mt o.2.2.2.1).1) && q_wm (.initialized (mt o.2.2.2.1).1.cls) && q_wm (r_code mt o.2.2.2.1) && q_ny (mt o.2.2.2.1).1 (mt o.2.2.2.1).1.cls (o.2.2.2.2.getD 0 0) && Nat.ble (mt o.2.2.2.1).2.2.1 30 && decide ((mt o.2.2.2.1).1.name = "<init>") && decide ((mt o.2.2.2.1).2.2.2 = none) && Nat.beq (mt o.2.2.2.1).2.2.1 (r_mt o.2.2.2.1).2.2.1
  | 91 => q_dc (mt k).2.1 pc (.invokestatic o.2.2.1) 3 && q_wm (.methodLink (mt k).1.cls o.2.2.1 Lib.Math.min.name) && q_wm (.static Lib.Math.min.name) && q_wm (.initialized "java/lang/Math") && q_wm (.code Lib.Math.min.name Lib.Math.min.code 2 (some .int))
  | 92 => q_dc (mt k).2.1 pc (.invokestatic o.2.2.1) 3 && q_wm (.methodLink (mt k).1.cls o.2.2.1 Lib.Math.max.name) && q_wm (.static Lib.Math.max.name) && q_wm (.initialized "java/lang/Math") && q_wm (.code Lib.Math.max.name Lib.Math.max.code 2 (some .int))
  | _ => false

theorem okw_0 : w_0.all (fun q => r_okB r_mt 0 q.1 q.2) = true := by decide +kernel
theorem okw_1 : w_1.all (fun q => r_okB r_mt 1 q.1 q.2) = true := by decide +kernel
theorem okw_2 : w_2.all (fun q => r_okB r_mt 2 q.1 q.2) = true := by decide +kernel
theorem okw_3 : w_3.all (fun q => r_okB r_mt 3 q.1 q.2) = true := by decide +kernel
theorem okw_4 : w_4.all (fun q => r_okB r_mt 4 q.1 q.2) = true := by decide +kernel
theorem okw_5 : w_5.all (fun q => r_okB r_mt 5 q.1 q.2) = true := by decide +kernel
theorem okw_6 : w_6.all (fun q => r_okB r_mt 6 q.1 q.2) = true := by decide +kernel
theorem okw_7 : w_7.all (fun q => r_okB r_mt 7 q.1 q.2) = true := by decide +kernel
theorem okw_8 : w_8.all (fun q => r_okB r_mt 8 q.1 q.2) = true := by decide +kernel
theorem okw_9 : w_9.all (fun q => r_okB r_mt 9 q.1 q.2) = true := by decide +kernel
theorem okw_10 : w_10.all (fun q => r_okB r_mt 10 q.1 q.2) = true := by decide +kernel
theorem r_prg_ok (k : Nat) : (r_prg.getD k []).all (fun q => r_okB r_mt k q.1 q.2) = true := by
  match k with
  | 0 => exact okw_0
  | 1 => exact okw_1
  | 2 => exact okw_2
  | 3 => exact okw_3
  | 4 => exact okw_4
  | 5 => exact okw_5
  | 6 => exact okw_6
  | 7 => exact okw_7
  | 8 => exact okw_8
  | 9 => exact okw_9
  | 10 => exact okw_10
  | k + 11 => rfl
theorem r_pr_ok : ∀ k pc o, r_pr k pc = some o → r_okB r_mt k pc o = true := fun k _ _ h => List.all_eq_true.mp (r_prg_ok k) _ (q_fd_in h)
