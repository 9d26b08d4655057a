/-! The classes: names, fields, their words. Ours, written by ops.py -/
theorem tb_of {i : Nat} {w : Cond} (h : tables_1[i]? = some w) : w ∈ lw_tbl := List.mem_append_right _ (List.mem_of_getElem? h)
def gt : List Cond := lw_tbl.filter goodWord
theorem gt_of {w : Cond} (h : w ∈ lw_tbl) (g : goodWord w = true) : w ∈ gt := List.mem_filter.mpr ⟨h, g⟩
theorem in_ps {ws : List Cond} (ps : List Nat) (hp : ws = ps.filterMap (fun i => tables_1[i]?)) (hg : ws.all goodWord = true) : ∀ w ∈ ws, w ∈ gt := by
  intro w hw
  have hg := List.all_eq_true.mp hg w hw
  rw [hp] at hw
  obtain ⟨i, -, hi⟩ := List.mem_filterMap.mp hw
  exact gt_of (tb_of hi) hg
abbrev R_JB : String := "JobBoard"
def F_JB : u_T := fun k => match k with
  | 0 => ("JobBoard", "sessions", "[LJobBoard$Session;", true)
  | 1 => ("JobBoard", "board", "LJobBoard$Board;", true)
  | 2 => ("JobBoard", "line", "LJobBoard$Line;", true)
  | 3 => ("JobBoard", "orders", "[LJobBoard$Order;", true)
  | 4 => ("JobBoard", "orderCount", "I", false)
  | 5 => ("JobBoard", "time", "I", false)
  | _ => ("JobBoard", "trial", "LJobBoard$Finding;", true)
def t_JB : Nat → FieldType := fun k => match k with
  | 0 => .array (.object "JobBoard$Session")
  | 1 => .object "JobBoard$Board"
  | 2 => .object "JobBoard$Line"
  | 3 => .array (.object "JobBoard$Order")
  | 4 => .int
  | 5 => .int
  | _ => .object "JobBoard$Finding"
theorem n_JB : ∀ a, a < 7 → ∀ b, b < 7 → a ≠ b → (F_JB a).2.1 ≠ (F_JB b).2.1 := by decide +kernel
theorem t_JB_ok : ∀ k, k < 7 → parseFieldDescriptor (F_JB k).2.2.1 = some (t_JB k) := by decide +kernel
theorem in_JB : ∀ w ∈ u_ws R_JB F_JB 7, w ∈ gt := in_ps [246, 248, 250, 252, 254, 256, 258] (by decide +kernel) (by decide +kernel)
abbrev R_Board : String := "JobBoard$Board"
def F_Board : u_T := fun k => match k with
  | 0 => ("JobBoard$Board", "rows", "[LJobBoard$Tuple;", true)
  | 1 => ("JobBoard$Board", "used", "I", false)
  | _ => ("JobBoard$Board", "lastNumber", "I", false)
def t_Board : Nat → FieldType := fun k => match k with
  | 0 => .array (.object "JobBoard$Tuple")
  | 1 => .int
  | _ => .int
theorem n_Board : ∀ a, a < 3 → ∀ b, b < 3 → a ≠ b → (F_Board a).2.1 ≠ (F_Board b).2.1 := by decide +kernel
theorem t_Board_ok : ∀ k, k < 3 → parseFieldDescriptor (F_Board k).2.2.1 = some (t_Board k) := by decide +kernel
theorem in_Board : ∀ w ∈ u_ws R_Board F_Board 3, w ∈ gt := in_ps [192, 194, 196] (by decide +kernel) (by decide +kernel)
abbrev R_Tuple : String := "JobBoard$Tuple"
def F_Tuple : u_T := fun k => match k with
  | 0 => ("JobBoard$Tuple", "onBoard", "Z", false)
  | 1 => ("JobBoard$Tuple", "number", "I", false)
  | 2 => ("JobBoard$Tuple", "leaseEnd", "I", false)
  | 3 => ("JobBoard$Tuple", "putSession", "I", false)
  | 4 => ("JobBoard$Tuple", "putDeal", "I", false)
  | 5 => ("JobBoard$Tuple", "takenSession", "I", false)
  | 6 => ("JobBoard$Tuple", "takenDeal", "I", false)
  | _ => ("JobBoard$Tuple", "fields", "LJobBoard$Fields;", true)
def t_Tuple : Nat → FieldType := fun k => match k with
  | 0 => .boolean
  | 1 => .int
  | 2 => .int
  | 3 => .int
  | 4 => .int
  | 5 => .int
  | 6 => .int
  | _ => .object "JobBoard$Fields"
theorem n_Tuple : ∀ a, a < 8 → ∀ b, b < 8 → a ≠ b → (F_Tuple a).2.1 ≠ (F_Tuple b).2.1 := by decide +kernel
theorem t_Tuple_ok : ∀ k, k < 8 → parseFieldDescriptor (F_Tuple k).2.2.1 = some (t_Tuple k) := by decide +kernel
theorem in_Tuple : ∀ w ∈ u_ws R_Tuple F_Tuple 8, w ∈ gt := in_ps [170, 172, 174, 176, 178, 180, 182, 184] (by decide +kernel) (by decide +kernel)
abbrev R_Fields : String := "JobBoard$Fields"
def F_Fields : u_T := fun k => match k with
  | 0 => ("JobBoard$Fields", "count", "I", false)
  | 1 => ("JobBoard$Fields", "kinds", "[I", true)
  | _ => ("JobBoard$Fields", "values", "[J", true)
def t_Fields : Nat → FieldType := fun k => match k with
  | 0 => .int
  | 1 => .array .int
  | _ => .array .long
theorem n_Fields : ∀ a, a < 3 → ∀ b, b < 3 → a ≠ b → (F_Fields a).2.1 ≠ (F_Fields b).2.1 := by decide +kernel
theorem t_Fields_ok : ∀ k, k < 3 → parseFieldDescriptor (F_Fields k).2.2.1 = some (t_Fields k) := by decide +kernel
theorem in_Fields : ∀ w ∈ u_ws R_Fields F_Fields 3, w ∈ gt := in_ps [54, 56, 58] (by decide +kernel) (by decide +kernel)
abbrev R_Pattern : String := "JobBoard$Pattern"
def F_Pattern : u_T := fun k => match k with
  | 0 => ("JobBoard$Pattern", "count", "I", false)
  | 1 => ("JobBoard$Pattern", "codes", "[I", true)
  | 2 => ("JobBoard$Pattern", "as", "[J", true)
  | _ => ("JobBoard$Pattern", "bs", "[J", true)
def t_Pattern : Nat → FieldType := fun k => match k with
  | 0 => .int
  | 1 => .array .int
  | 2 => .array .long
  | _ => .array .long
theorem n_Pattern : ∀ a, a < 4 → ∀ b, b < 4 → a ≠ b → (F_Pattern a).2.1 ≠ (F_Pattern b).2.1 := by decide +kernel
theorem t_Pattern_ok : ∀ k, k < 4 → parseFieldDescriptor (F_Pattern k).2.2.1 = some (t_Pattern k) := by decide +kernel
theorem in_Pattern : ∀ w ∈ u_ws R_Pattern F_Pattern 4, w ∈ gt := in_ps [97, 99, 101, 103] (by decide +kernel) (by decide +kernel)
abbrev R_Finding : String := "JobBoard$Finding"
def F_Finding : u_T := fun k => match k with
  | 0 => ("JobBoard$Finding", "numbers", "[I", true)
  | 1 => ("JobBoard$Finding", "bound", "I", false)
  | 2 => ("JobBoard$Finding", "kinds", "[I", true)
  | _ => ("JobBoard$Finding", "values", "[J", true)
def t_Finding : Nat → FieldType := fun k => match k with
  | 0 => .array .int
  | 1 => .int
  | 2 => .array .int
  | _ => .array .long
theorem n_Finding : ∀ a, a < 4 → ∀ b, b < 4 → a ≠ b → (F_Finding a).2.1 ≠ (F_Finding b).2.1 := by decide +kernel
theorem t_Finding_ok : ∀ k, k < 4 → parseFieldDescriptor (F_Finding k).2.2.1 = some (t_Finding k) := by decide +kernel
theorem in_Finding : ∀ w ∈ u_ws R_Finding F_Finding 4, w ∈ gt := in_ps [77, 79, 81, 83] (by decide +kernel) (by decide +kernel)
abbrev R_Session : String := "JobBoard$Session"
def F_Session : u_T := fun k => match k with
  | 0 => ("JobBoard$Session", "id", "I", true)
  | 1 => ("JobBoard$Session", "draft", "LJobBoard$Fields;", true)
  | 2 => ("JobBoard$Session", "patterns", "[LJobBoard$Pattern;", true)
  | 3 => ("JobBoard$Session", "finding", "LJobBoard$Finding;", true)
  | 4 => ("JobBoard$Session", "deals", "I", false)
  | 5 => ("JobBoard$Session", "state", "I", false)
  | 6 => ("JobBoard$Session", "joined", "I", false)
  | _ => ("JobBoard$Session", "takes", "Z", false)
def t_Session : Nat → FieldType := fun k => match k with
  | 0 => .int
  | 1 => .object "JobBoard$Fields"
  | 2 => .array (.object "JobBoard$Pattern")
  | 3 => .object "JobBoard$Finding"
  | 4 => .int
  | 5 => .int
  | 6 => .int
  | _ => .boolean
theorem n_Session : ∀ a, a < 8 → ∀ b, b < 8 → a ≠ b → (F_Session a).2.1 ≠ (F_Session b).2.1 := by decide +kernel
theorem t_Session_ok : ∀ k, k < 8 → parseFieldDescriptor (F_Session k).2.2.1 = some (t_Session k) := by decide +kernel
theorem in_Session : ∀ w ∈ u_ws R_Session F_Session 8, w ∈ gt := in_ps [121, 123, 125, 127, 129, 131, 133, 135] (by decide +kernel) (by decide +kernel)
abbrev R_Order : String := "JobBoard$Order"
def F_Order : u_T := fun k => match k with
  | 0 => ("JobBoard$Order", "pattern", "LJobBoard$Pattern;", true)
  | 1 => ("JobBoard$Order", "reports", "[I", true)
  | 2 => ("JobBoard$Order", "count", "I", false)
  | _ => ("JobBoard$Order", "over", "Z", false)
def t_Order : Nat → FieldType := fun k => match k with
  | 0 => .object "JobBoard$Pattern"
  | 1 => .array .int
  | 2 => .int
  | _ => .boolean
theorem n_Order : ∀ a, a < 4 → ∀ b, b < 4 → a ≠ b → (F_Order a).2.1 ≠ (F_Order b).2.1 := by decide +kernel
theorem t_Order_ok : ∀ k, k < 4 → parseFieldDescriptor (F_Order k).2.2.1 = some (t_Order k) := by decide +kernel
theorem in_Order : ∀ w ∈ u_ws R_Order F_Order 4, w ∈ gt := in_ps [228, 230, 232, 234] (by decide +kernel) (by decide +kernel)
abbrev R_Line : String := "JobBoard$Line"
def F_Line : u_T := fun k => match k with
  | 0 => ("JobBoard$Line", "members", "[I", true)
  | _ => ("JobBoard$Line", "count", "I", false)
def t_Line : Nat → FieldType := fun k => match k with
  | 0 => .array .int
  | _ => .int
theorem n_Line : ∀ a, a < 2 → ∀ b, b < 2 → a ≠ b → (F_Line a).2.1 ≠ (F_Line b).2.1 := by decide +kernel
theorem t_Line_ok : ∀ k, k < 2 → parseFieldDescriptor (F_Line k).2.2.1 = some (t_Line k) := by decide +kernel
theorem in_Line : ∀ w ∈ u_ws R_Line F_Line 2, w ∈ gt := in_ps [209, 211] (by decide +kernel) (by decide +kernel)
abbrev R_M : String := "JobBoardModel"
def F_M : u_T := fun k => match k with
  | 0 => ("JobBoardModel", "code", "I", false)
  | 1 => ("JobBoardModel", "tuples", "I", false)
  | 2 => ("JobBoardModel", "latest", "I", false)
  | 3 => ("JobBoardModel", "now", "I", false)
  | 4 => ("JobBoardModel", "number", "[I", true)
  | 5 => ("JobBoardModel", "fields", "[I", true)
  | 6 => ("JobBoardModel", "end", "[I", true)
  | 7 => ("JobBoardModel", "putBy", "[I", true)
  | 8 => ("JobBoardModel", "putIn", "[I", true)
  | 9 => ("JobBoardModel", "takenBy", "[I", true)
  | 10 => ("JobBoardModel", "takenIn", "[I", true)
  | 11 => ("JobBoardModel", "kind", "[I", true)
  | 12 => ("JobBoardModel", "value", "[J", true)
  | 13 => ("JobBoardModel", "sessions", "I", true)
  | 14 => ("JobBoardModel", "deals", "[I", true)
  | 15 => ("JobBoardModel", "drafted", "[I", true)
  | 16 => ("JobBoardModel", "draftKind", "[I", true)
  | 17 => ("JobBoardModel", "draftValue", "[J", true)
  | 18 => ("JobBoardModel", "forms", "[I", true)
  | 19 => ("JobBoardModel", "formCode", "[I", true)
  | 20 => ("JobBoardModel", "formA", "[J", true)
  | 21 => ("JobBoardModel", "formB", "[J", true)
  | 22 => ("JobBoardModel", "waiting", "I", false)
  | 23 => ("JobBoardModel", "line", "[I", true)
  | 24 => ("JobBoardModel", "joinedBy", "[I", true)
  | 25 => ("JobBoardModel", "how", "[I", true)
  | 26 => ("JobBoardModel", "last", "[I", true)
  | 27 => ("JobBoardModel", "foundNumber", "[I", true)
  | 28 => ("JobBoardModel", "foundKind", "[I", true)
  | 29 => ("JobBoardModel", "foundValue", "[J", true)
  | 30 => ("JobBoardModel", "orders", "I", false)
  | 31 => ("JobBoardModel", "reports", "[I", true)
  | 32 => ("JobBoardModel", "report", "[I", true)
  | 33 => ("JobBoardModel", "over", "[Z", true)
  | 34 => ("JobBoardModel", "boundKind", "[I", true)
  | 35 => ("JobBoardModel", "boundValue", "[J", true)
  | _ => ("JobBoardModel", "at", "[I", true)
def t_M : Nat → FieldType := fun k => match k with
  | 0 => .int
  | 1 => .int
  | 2 => .int
  | 3 => .int
  | 4 => .array .int
  | 5 => .array .int
  | 6 => .array .int
  | 7 => .array .int
  | 8 => .array .int
  | 9 => .array .int
  | 10 => .array .int
  | 11 => .array .int
  | 12 => .array .long
  | 13 => .int
  | 14 => .array .int
  | 15 => .array .int
  | 16 => .array .int
  | 17 => .array .long
  | 18 => .array .int
  | 19 => .array .int
  | 20 => .array .long
  | 21 => .array .long
  | 22 => .int
  | 23 => .array .int
  | 24 => .array .int
  | 25 => .array .int
  | 26 => .array .int
  | 27 => .array .int
  | 28 => .array .int
  | 29 => .array .long
  | 30 => .int
  | 31 => .array .int
  | 32 => .array .int
  | 33 => .array .boolean
  | 34 => .array .int
  | 35 => .array .long
  | _ => .array .int
theorem n_M : ∀ a, a < 37 → ∀ b, b < 37 → a ≠ b → (F_M a).2.1 ≠ (F_M b).2.1 := by decide +kernel
theorem t_M_ok : ∀ k, k < 37 → parseFieldDescriptor (F_M k).2.2.1 = some (t_M k) := by decide +kernel
theorem in_M : ∀ w ∈ u_ws R_M F_M 37, w ∈ gt := in_ps [821, 823, 825, 827, 829, 831, 833, 835, 837, 839, 841, 843, 845, 847, 849, 851, 853, 855, 857, 859, 861, 863, 865, 867, 869, 871, 873, 875, 877, 879, 881, 883, 885, 887, 889, 891, 893] (by decide +kernel) (by decide +kernel)
abbrev vcl : List vw_C := [(R_JB, F_JB, 7), (R_Board, F_Board, 3), (R_Tuple, F_Tuple, 8), (R_Fields, F_Fields, 3), (R_Pattern, F_Pattern, 4), (R_Finding, F_Finding, 4), (R_Session, F_Session, 8), (R_Order, F_Order, 4), (R_Line, F_Line, 2), (R_M, F_M, 37)]
theorem vc_ok : ∀ (ci : Nat) (q : vw_C), vcl[ci]? = some q → (∀ w ∈ u_ws q.1 q.2.1 q.2.2, w ∈ gt) ∧ ∃ ty : Nat → FieldType, (∀ k, k < q.2.2 → parseFieldDescriptor (q.2.1 k).2.2.1 = some (ty k)) ∧ ∀ a, a < q.2.2 → ∀ b, b < q.2.2 → a ≠ b → (q.2.1 a).2.1 ≠ (q.2.1 b).2.1 := by
  intro ci q h
  match ci, h with
  | 0, h => cases h; exact ⟨in_JB, t_JB, t_JB_ok, n_JB⟩
  | 1, h => cases h; exact ⟨in_Board, t_Board, t_Board_ok, n_Board⟩
  | 2, h => cases h; exact ⟨in_Tuple, t_Tuple, t_Tuple_ok, n_Tuple⟩
  | 3, h => cases h; exact ⟨in_Fields, t_Fields, t_Fields_ok, n_Fields⟩
  | 4, h => cases h; exact ⟨in_Pattern, t_Pattern, t_Pattern_ok, n_Pattern⟩
  | 5, h => cases h; exact ⟨in_Finding, t_Finding, t_Finding_ok, n_Finding⟩
  | 6, h => cases h; exact ⟨in_Session, t_Session, t_Session_ok, n_Session⟩
  | 7, h => cases h; exact ⟨in_Order, t_Order, t_Order_ok, n_Order⟩
  | 8, h => cases h; exact ⟨in_Line, t_Line, t_Line_ok, n_Line⟩
  | 9, h => cases h; exact ⟨in_M, t_M, t_M_ok, n_M⟩
  | _ + 10, h => cases h
